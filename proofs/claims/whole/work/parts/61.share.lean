section SHR3
variable {f : TW}
theorem c_shr (hf : WF f) (h0 : 0 < tn f) : ∀ (m k : Nat), k + m = tw f → ∀ (P : List Nat) (g h : TW) (b : Int32 × List Nat) (I : II) (Q : II → Prop) (e : Nat), P.length = k → srvS f 0 P = some g → SQ h g → BK False I (29 + k) h → (∀ j, k < j → j ≤ tw f → LV I f (29 + j)) → I 308 4 = nI (tw f) → (∀ i, i < k → I 310 i = nI (P.getD i 0)) → SBC I f b → (∀ J, FRS k I J → (∀ j, k < j → j ≤ tw f → LV J f (29 + j)) → SBC J f (((seqs m).map (fun r => P ++ r)).foldl (bS f) b) → Q J) → wpd_X5_tryShares (m + 1 + e) (nI k) (nI (piN f m k)) I Q := by
  have n4 := hf.n.2
  have w7 := hf.w.2
  intro m
  induction m with
  | zero =>
    intro k hk P g h b I Q e hP hs hsq hb hv h4 hpath hB hq
    rw [Nat.add_right_comm, Nat.zero_add]
    show wp_X5_tryShares (wpd_X5_tryShares e) (nI k) (nI (piN f 0 k)) I Q
    obtain ⟨wg, ng⟩ := srvS_wf P 0 f g hf (by omega) hs
    have wh := hsq.wf wg
    obtain ⟨c, hc, ec⟩ := poor_nI wg (tn f) (by omega)
    have eh : poor h (tn h) = nI c := by rw [hsq.n, ng, hsq.por _ (by omega), ec]
    unfold wp_X5_tryShares
    rw [nI_clamp (show k < 2147483648 by omega), h4]
    have c1 : k ≤ tw f := by omega
    have k8 : k < 8 := by omega
    have ek : (k = tw f) = True := eq_true (by omega)
    simp (disch := omega) only [nIlt0, Bool.true_eq_false, Bool.false_eq_true, false_implies, true_implies, not_true_eq_false, not_false_eq_true, and_true, true_and, nIle, c1, nIvp, nIcl, k8, nIeq]
    refine c_leastLeft hb wh ?_
    rw [eh, hB.2.1, h4, piN, nI_add, Nat.add_zero]
    have eb : ((seqs 0).map (fun r => P ++ r)).foldl (bS f) b = if b.1 < nI c then (nI c, P) else b := by
      show bS f b (P ++ []) = _
      unfold bS
      rw [List.append_nil, hs]
      show (if b.1 < poor g (tn f) then (poor g (tn f), P) else b) = _
      rw [ec]
    rw [eb] at hq
    refine ⟨fun z => ⟨fun z2 => ?_, fun _ => ?_⟩, fun z => ?_⟩
    · rw [nIeq (by omega) (by omega)] at z2; omega
    · rw [if_pos z] at hq
      simp (disch := omega) only [forall_eq]
      refine ⟨by omega, by omega, hq _ (fun a s z1 z2 z3 z4 => ?_) (fun j j1 j2 => by omega) ⟨Or.inr ⟨c, hc, rfl⟩, ?_, Or.inr (fun i hi => ?_)⟩⟩
      · simp only [va_up]
        rw [if_neg z4, su2 (by omega)]
      · simp only [va_up]
        rw [if_neg (by omega), su_eq]
      · simp only [va_up]
        rw [if_pos trivial, pk_cpy_in (by omega) (by omega), su_cell (by omega), Nat.zero_add, Nat.sub_zero]
        exact hpath i (by omega)
    · rw [if_neg z] at hq
      exact hq I (FRS.rf k I) hv hB
  | succ m ih =>
    intro k hk P g h b I Q e hP hs hsq hb hv h4 hpath hB hq
    rw [Nat.add_right_comm]
    show wp_X5_tryShares (wpd_X5_tryShares (m + 1 + e)) (nI k) (nI (piN f (m + 1) k)) I Q
    obtain ⟨wg, ng⟩ := srvS_wf P 0 f g hf (by omega) hs
    have wh := hsq.wf wg
    have sg := srv_q P 0 f g hs
    have nh : tn h = tn f := by rw [hsq.n, ng]
    have wgw : tw g = tw f := by rw [tw, sg 7 (by omega)]; rfl
    have whw : tw h = tw f := by rw [hsq.w, wgw]
    have qg : ∀ i, i < 7 → tq g i = tq f i := fun i hi => by rw [tq, sg _ (by omega)]; rfl
    have qh : ∀ i, i < 7 → tq h i = tq f i := fun i hi => by rw [hsq.q hi, qg i hi]
    have p7 := (hf.q (k := k) (by omega)).2
    have kn := hf.kn (k := k) (by omega)
    obtain ⟨x, x1, x2, ex⟩ := hf.sm p7 kn
    have h22 : h (22 + tq f k) = f (22 + tq f k) := by rw [hsq _ (by omega) (by omega), sg _ (by omega)]
    have h15 : h (15 + tq f k) = f (15 + tq f k) := by rw [hsq _ (by omega) (by omega), sg _ (by omega)]
    have g22 : g (22 + tq f k) = f (22 + tq f k) := sg _ (by omega)
    have g15 : g (15 + tq f k) = f (15 + tq f k) := sg _ (by omega)
    have knh : ¬ h (22 + tq f k) = -nI 1 := by rw [h22]; exact kn
    have sh : ∀ q, q < 41 → q ≠ 3 → q ≠ 4 → q ≠ 5 → h q = f q := fun q a1 a2 a3 a4 => by rw [hsq q (by omega) a3, sg q a1]
    obtain ⟨c, hc, ec⟩ := poor_nI wg (tn f) (by omega)
    have eh : poor h (tn h) = nI c := by rw [nh, hsq.por _ (by omega), ec]
    have pl := piN_le hf (m + 1) k (by omega)
    have plm := piN_le hf m (k + 1) (by omega)
    have pis : piN f (m + 1) k = (if f (22 + tq f k) = nI 1 then 0 else x) + piN f m (k + 1) := by
      rw [piN, ex, nI_clamp (by omega)]
    unfold wp_X5_tryShares
    rw [nI_clamp (show k < 2147483648 by omega), h4]
    have c1 : k ≤ tw f := by omega
    have k8 : k < 8 := by omega
    have k18 : k + 1 < 8 := by omega
    have k7 : k < 7 := by omega
    have ek : ¬ k = tw f := by omega
    simp (disch := omega) only [nIlt0, Bool.true_eq_false, Bool.false_eq_true, false_implies, true_implies, not_true_eq_false, not_false_eq_true, and_true, true_and, nIle, c1, nIvp, nIcl, k8]
    refine c_leastLeft hb wh ?_
    rw [eh, hB.2.1, h4, nI_add]
    refine ⟨fun z => ⟨fun _ => ?_, fun z2 => ?_⟩, fun z => ?_⟩
    · rw [c_paperAt hb wh (by omega), qh k k7, c_isDrawing hb p7 knh, c_sumOf hb p7 knh, h22, h15]
      simp (disch := omega) only [nI_add, nIvp, nIcl, k18, Bool.true_eq_false, Bool.false_eq_true, false_implies, true_implies, not_true_eq_false, not_false_eq_true, and_true, true_and]
      have loop : ∀ (d t : Nat) (b' : Int32 × List Nat) (J : II), t + d = tn f → FRS k I J → (∀ j, k < j → j ≤ tw f → LV J f (29 + j)) → SBC J f b' → (List.range' t (4 - t)).foldl (fun b x => ((seqs m).map (fun r => (P ++ [x]) ++ r)).foldl (bS f) b) b' = ((seqs (m + 1)).map (fun r => P ++ r)).foldl (bS f) b → wp_X5_tryShares_104 (wpd_X5_tryShares (m + 1 + e)) Q (fun I => Q I) (d + 1) (nI k) (nI (piN f (m + 1) k)) (29 + k) (nI (tq f k)) (i1 (decide (f (22 + tq f k) = nI 1))) (f (15 + tq f k)) (29 + (k + 1)) (nI t) J := by
        have nof : ∀ (t : Nat) (b' : Int32 × List Nat), okS g k t = false → ((seqs m).map (fun r => (P ++ [t]) ++ r)).foldl (bS f) b' = b' := fun t b' ho => by
          refine fold_id (fun l hl => ?_)
          obtain ⟨r, -, rfl⟩ := List.mem_map.mp hl
          unfold bS
          have : srvS f 0 (P ++ [t] ++ r) = none := by
            rw [List.append_assoc, srv_app, hs]
            show srvS g (0 + P.length) (t :: r) = none
            rw [srvS_c, Nat.zero_add, hP, if_neg (by rw [ho]; decide)]
          rw [this]
        intro d
        induction d with
        | zero =>
          intro t b' J ht hF hV hS hr
          have jb : BK False J (29 + k) h := hb.fr (fun a a1 a2 => funext fun s => hF a s (by omega) (by omega) (by omega) (by omega))
          rw [wp_X5_tryShares_104.eq_2, jb.1.2.2.1, wh.n.1, nh]
          have ct : tn f ≤ t := by omega
          simp (disch := omega) only [nIle, ct, Bool.true_eq_false, Bool.false_eq_true, false_implies, true_implies, not_true_eq_false, not_false_eq_true, and_true, true_and]
          have : (List.range' t (4 - t)).foldl (fun b x => ((seqs m).map (fun r => (P ++ [x]) ++ r)).foldl (bS f) b) b' = b' := fold_id (fun x hx => nof x b' (by
            rw [List.mem_range'_1] at hx
            unfold okS
            rw [decide_eq_false (by omega)]; rfl))
          rw [this] at hr
          rw [hr] at hS
          exact hq J hF hV hS
        | succ d ihd =>
          intro t b' J ht hF hV hS hr
          have jb : BK False J (29 + k) h := hb.fr (fun a a1 a2 => funext fun s => hF a s (by omega) (by omega) (by omega) (by omega))
          rw [wp_X5_tryShares_104.eq_2, jb.1.2.2.1, wh.n.1, nh]
          have ct : ¬ tn f ≤ t := by omega
          have t4 : t < 4 := by omega
          simp (disch := omega) only [nIle, ct, Bool.true_eq_false, Bool.false_eq_true, false_implies, true_implies, not_true_eq_false, not_false_eq_true, and_true, true_and]
          rw [show 4 - t = (4 - (t + 1)) + 1 by omega, List.range'_succ, List.foldl_cons] at hr
          have ok : okS g k t = (!decide (f (22 + tq f k) = nI 1) || pyT g t (f (15 + tq f k))) := by
            unfold okS; rw [ng, qg k k7, g22, g15, decide_eq_true (by omega)]; rfl
          have run : okS g k t = true → wp_X5_tryShares_129 (wpd_X5_tryShares (m + 1 + e)) Q (fun x1 x2 b3 x5 x6 x7 b8 x9 I => wp_X5_tryShares_104 (wpd_X5_tryShares (m + 1 + e)) Q (fun I => Q I) (d + 1) x1 x2 b3 x5 x6 x7 b8 x9 I) (nI k) (nI (piN f (m + 1) k)) (29 + k) (nI (tq f k)) (i1 (decide (f (22 + tq f k) = nI 1))) (f (15 + tq f k)) (29 + (k + 1)) (nI t) J := fun ho => by
            unfold wp_X5_tryShares_129
            refine c_tcL (by omega) hf jb sh (hV (k + 1) (by omega) (by omega)) (fun K kb ko => ?_)
            refine c_handOver kb wh (by rw [nh]; omega) p7 knh (fun M mb mo => ?_)
            have oM : OUT (29 + (k + 1)) J M := ko.tr mo
            simp (disch := omega) only [nIvp, nIcl, k7, Bool.true_eq_false, Bool.false_eq_true, false_implies, true_implies, not_true_eq_false, not_false_eq_true, and_true, true_and, forall_eq]
            generalize hM' : su M 310 k (nI t) = M'
            have m1 : ∀ a, a ≠ 310 → M' a = M a := fun a ha => by rw [← hM', su_cell ha]
            have hs' : srvS f 0 (P ++ [t]) = some (takeT g t (tq f k)) := by
              rw [srv_app, hs]
              show srvS g (0 + P.length) [t] = _
              rw [srvS_c, Nat.zero_add, hP, if_pos ho, qg k k7]; rfl
            have rcc : wpd_X5_tryShares (m + 1 + e) (nI (k + 1)) (nI (piN f m (k + 1))) M' (fun I1 => wp_X5_tryShares_172 (wpd_X5_tryShares (m + 1 + e)) Q (fun x1 x2 b3 x5 x6 x7 b8 x9 I => wp_X5_tryShares_104 (wpd_X5_tryShares (m + 1 + e)) Q (fun I => Q I) (d + 1) x1 x2 b3 x5 x6 x7 b8 x9 I) (nI k) (nI (piN f (m + 1) k)) (29 + k) (nI (tq f k)) (i1 (decide (f (22 + tq f k) = nI 1))) (f (15 + tq f k)) (29 + (k + 1)) (nI t) I1) := by
              refine ih (k + 1) (by omega) (P ++ [t]) _ _ b' M' _ e (by rw [List.length_append, hP, List.length_singleton]) hs' (hsq.take t4 p7 _ _) (mb.fr (fun a a1 a2 => m1 a (by omega))) (fun j j1 j2 => (hV j (by omega) j2).fr (fun a a1 a2 => by rw [m1 a (by omega), oM a (by omega)])) ?_ (fun q hq2 => ?_) (hS.fr ⟨by rw [m1 _ (by omega), oM _ (by omega)], by rw [m1 _ (by omega), oM _ (by omega)]⟩) (fun N nF nV nB => ?_)
              · rw [m1 _ (by omega), oM _ (by omega), hF _ _ (by omega) (by omega) (by omega) (by omega)]; exact h4
              · by_cases eq : q = k
                · subst eq
                  rw [← hM', su_eq]
                  have := getA P [] t
                  rw [hP] at this
                  rw [this]
                · rw [← hM', su_slot eq, oM _ (by omega), hF _ _ (by omega) (by omega) (by omega) (by omega), hpath q (by omega), List.getD_eq_getElem?_getD, List.getD_eq_getElem?_getD, List.getElem?_append_left (by omega)]
              · unfold wp_X5_tryShares_172
                rw [nI_add]
                have fJN : FRS k J N := by
                  intro a s z1 z2 z3 z4
                  rw [nF a s (by omega) (by omega) z3 z4, ← hM', su2 (by omega), oM a (by omega)]
                refine ihd (t + 1) _ N (by omega) (hF.tr fJN) (fun j j1 j2 => ?_) nB hr
                by_cases ej : j = k + 1
                · subst ej
                  refine ⟨_, mb.fr (fun a a1 a2 => funext fun s => ?_), fun q a1 a2 a3 a4 => ?_⟩
                  · rw [nF a s (by omega) (by omega) (by omega) (by omega), m1 a (by omega)]
                  · rw [upd_ne (by omega), upd_ne a3, take_q a1, sh q a1 a2 a3 a4]
                · exact nV j (by omega) j2
            unfold wp_X5_tryShares_169
            rw [nI_add]
            refine gd (fun z => ?_) (fun z => ?_)
            · have z : ¬ f (22 + tq f k) = nI 1 := by simpa using z
              rw [if_neg z] at pis
              have : nI (piN f (m + 1) k) - f (15 + tq f k) = nI (piN f m (k + 1)) := by rw [ex, nIsub (by omega)]; congr 1; omega
              rw [this]; exact rcc
            · have z : f (22 + tq f k) = nI 1 := by simpa using z
              rw [if_pos z, Nat.zero_add] at pis
              have rcc := rcc
              rw [← pis] at rcc; exact rcc
          have skip : okS g k t = false → wp_X5_tryShares_172 (wpd_X5_tryShares (m + 1 + e)) Q (fun x1 x2 b3 x5 x6 x7 b8 x9 I => wp_X5_tryShares_104 (wpd_X5_tryShares (m + 1 + e)) Q (fun I => Q I) (d + 1) x1 x2 b3 x5 x6 x7 b8 x9 I) (nI k) (nI (piN f (m + 1) k)) (29 + k) (nI (tq f k)) (i1 (decide (f (22 + tq f k) = nI 1))) (f (15 + tq f k)) (29 + (k + 1)) (nI t) J := fun ho => by
            unfold wp_X5_tryShares_172
            rw [nI_add]
            have := nof t b' ho
            rw [this] at hr
            exact ihd (t + 1) b' J (by omega) hF hV hS hr
          refine gd (fun z => run (by rw [ok, z]; rfl)) (fun z => ?_)
          rw [c_canPay jb wh (by rw [nh]; omega), hsq.py t4]
          refine gd (fun z2 => skip (by rw [ok, z, z2]; rfl)) (fun z2 => run (by rw [ok, z2]; simp))
      exact ⟨tn f + 1, loop (tn f) 0 b I (by omega) (FRS.rf k I) hv hB (seqs_fold m P b).symm⟩
    · rw [nIeq (by omega) (by omega)] at z2; omega
    · refine hq I (FRS.rf k I) hv ?_
      have key : ((seqs (m + 1)).map (fun r => P ++ r)).foldl (bS f) b = b := by
        refine fold_id (fun l hl => ?_)
        obtain ⟨r, hr, rfl⟩ := List.mem_map.mp hl
        have lr := seqs_len (m + 1) r hr
        have es : srvS f 0 (P ++ r) = srvS g k r := by
          rw [srv_app, hs]
          show srvS g (0 + P.length) r = _
          rw [Nat.zero_add, hP]
        unfold bS
        rw [es]
        cases hg' : srvS g k r with
        | none => rfl
        | some g' =>
          show (if b.1 < poor g' (tn f) then (poor g' (tn f), P ++ r) else b) = b
          obtain ⟨wg', ng'⟩ := srvS_wf r k g g' wg (by rw [wgw]; omega) hg'
          have bd := srv_bd r k g g' wg (by rw [wgw]; omega) hg'
          rw [lr] at bd
          obtain ⟨d, d', d1, d2, d3, d4, d5⟩ := poor_bd wg wg' (by rw [ng']) bd (tn f) (by omega)
          have : piN g (m + 1) k = piN f (m + 1) k := piN_congr (f := f) (g := g) sg _ _ (by omega) (fun i hi => by
            by_cases zz : i < tw f
            · exact Or.inl (hf.q zz).2
            · exact Or.inr (by omega)) (by omega)
          rw [this] at d5
          have edc : d = c := by
            rw [ec, nIeq (by omega) (by omega)] at d3; exact d3.symm
          subst edc
          rw [d4, if_neg]
          intro u
          apply z
          rcases hB.1 with zz | ⟨n, hn, zz⟩
          · rw [zz]
            exact neg_lt (by decide) (by omega)
          · rw [zz, nIlt (by omega) (by omega)] at u
            rw [zz, nIlt (by omega) (by omega)]
            omega
      rw [key]; exact hB
theorem shrS_ok (hf : WF f) : (shrS f).1 = (-nI 1000000) ∨ (∃ n, n ≤ 99 ∧ (shrS f).1 = nI n) := by
  unfold shrS
  have key : ∀ (L : List (List Nat)) (b : Int32 × List Nat), (∀ l, l ∈ L → l.length = tw f) → (b.1 = (-nI 1000000) ∨ ∃ n, n ≤ 99 ∧ b.1 = nI n) → ((L.foldl (bS f) b).1 = (-nI 1000000) ∨ ∃ n, n ≤ 99 ∧ (L.foldl (bS f) b).1 = nI n) := by
    intro L
    induction L with
    | nil => intro b _ hb; exact hb
    | cons l L ih =>
      intro b hl hb
      refine ih (bS f b l) (fun l' h' => hl l' (List.mem_cons_of_mem _ h')) ?_
      cases hg : srvS f 0 l with
      | none =>
        have e : bS f b l = b := by unfold bS; rw [hg]
        rw [e]; exact hb
      | some g =>
        have e : bS f b l = if b.1 < poor g (tn f) then (poor g (tn f), l) else b := by unfold bS; rw [hg]
        rw [e]
        obtain ⟨wg, ng⟩ := srvS_wf l 0 f g hf (by rw [hl l (by simp)]; omega) hg
        obtain ⟨c, hc, ec⟩ := poor_nI wg (tn f) (by omega)
        split
        · exact Or.inr ⟨c, hc, ec⟩
        · exact hb
  exact key _ _ (fun l hl => seqs_len _ l hl) (Or.inl rfl)
def SHK (J : II) (f : TW) : Prop := J 308 4 = f 7 ∧ J 308 8 = (shrS f).1 ∧ (¬ (shrS f).1 = (-nI 1000000) → ∀ k, k < tw f → J 312 k = nI ((shrS f).2.getD k 0))
theorem c_findShare {I : II} {Q : II → Prop} (hf : WF f) (h0 : 0 < tn f) (h : BK True I 0 f) (ho : SHR I f) (hq : ∀ J, SHK J f → J 308 10 = nI 1 → (∀ a s, ¬ scr a s → ¬ (a = 308 ∧ (s = 4 ∨ s = 5 ∨ s = 8 ∨ s = 10)) → a ≠ 312 → J a s = I a s) → Q J) : wp_X5_findShare 0 I Q := by
  have w7 := hf.w.2
  unfold wp_X5_findShare
  refine ⟨fun e => ?_, fun e => ?_⟩
  · refine c_makeReady hf h (fun J j1 j2 j3 j4 => ?_)
    simp only [forall_eq]
    generalize hK : su J 308 8 (-nI 1000000) = K
    have kc : ∀ a, a ≠ 308 → K a = J a := fun a ha => by rw [← hK, su_cell ha]
    have kb : BK True K 0 f := h.fr (fun a a1 a2 => funext fun s => by rw [kc a (by omega), j4 a s (by omega) (by omega)])
    refine c_sumPaidIn kb hf ?_
    have e10 : 10 = tw f + 1 + (9 - tw f) := by omega
    refine Eq.mpr (congrArg (fun n => wpd_X5_tryShares n (nI 0) (nI (piN f (tw f) 0)) K _) e10) ?_
    refine c_shr hf h0 (tw f) 0 (by omega) [] f f ((-nI 1000000), []) K _ (9 - tw f) rfl rfl (fun _ _ _ => rfl) ((j1 0 (by omega)).fr (fun a a1 a2 => kc a (by omega))) (fun j hj1 hj2 => ⟨f, (j1 j hj2).fr (fun a a1 a2 => kc a (by omega)), fun _ _ _ _ _ => rfl⟩) ?_ (fun i hi => absurd hi (by omega)) ⟨Or.inl rfl, ?_, Or.inl rfl⟩ (fun L lF lV lB => ?_)
    · rw [← hK, su_slot (by omega)]; exact j2
    · rw [← hK, su_eq]
    · have lB : SBC L f (shrS f) := by
        unfold shrS
        have : (seqs (tw f)).map (fun r => [] ++ r) = seqs (tw f) := by simp
        rw [this] at lB; exact lB
      obtain ⟨b1, b2, b3⟩ := lB
      have l4 : L 308 4 = nI (tw f) := by rw [lF 308 4 (by omega) (by omega) (by omega) (by omega), ← hK, su_slot (by omega)]; exact j2
      refine hq _ ⟨?_, ?_, fun z k hk => ?_⟩ (su_eq _ _ _ _) (fun a s z1 z2 z3 => ?_)
      · rw [su_slot (by omega), l4, hf.w.1]
      · rw [su_slot (by omega)]; exact b2
      · rw [su_cell (by omega)]; exact (b3.resolve_left z) k hk
      · unfold scr at z1
        rw [su2 (by omega), lF a s (by omega) (by omega) (by omega) z3, ← hK, su2 (by omega), j4 a s (by omega) (by omega)]
  · rcases ho with z | ⟨z, o⟩
    · exact absurd (by rw [z]; rfl) e
    · exact hq I o z (fun _ _ _ _ _ => rfl)
end SHR3
theorem ge1_cases {x : Int32} (h : -nI 1 ≤ x) (h1 : ¬ x = -nI 1) : ∃ n, n < 2147483648 ∧ x = nI n := by
  rcases i32_cases x with hx | h
  · exfalso
    have a := Int32.le_iff_toInt_le.mp h
    have b := Int32.lt_iff_toInt_lt.mp hx
    have c : ¬ x.toInt = (-nI 1 : Int32).toInt := fun e => h1 (Int32.toInt_inj.mp e)
    have e1 : (-nI 1 : Int32).toInt = -1 := by decide
    have e0 : (0 : Int32).toInt = 0 := by decide
    omega
  · exact h
theorem dig_get : ∀ (n w k : Nat), k < n → (dig n w).getD k 0 = w / 4 ^ (n - 1 - k) % 4 := by
  intro n
  induction n with
  | zero => intro w k h; omega
  | succ n ih =>
    intro w k h
    rw [dig]
    cases k with
    | zero => show w / 4 ^ n % 4 = _; congr 2
    | succ k =>
      show (dig n w).getD k 0 = _
      rw [ih w k (by omega)]
      congr 3; omega
theorem s_share (x : Int32) : SIM (wp_X7_share x) (wp_X8_share x) := by
  intro I v
  obtain ⟨f, sz, lt, h, p, c, m, o, i, r, t, ms, k⟩ := id v
  have hf := p.1
  have hw := hf.w
  unfold wp_X7_share
  rw [c_isThere c.1 hf, i1_0]
  by_cases h0 : 0 < tn f
  · rw [decide_eq_true h0]
    simp only [Bool.true_eq_false, Bool.false_eq_true, false_implies, true_implies, not_true_eq_false, not_false_eq_true, and_true, true_and]
    by_cases hx : -nI 1 ≤ x
    · simp only [hx, Bool.true_eq_false, Bool.false_eq_true, false_implies, true_implies, not_true_eq_false, not_false_eq_true, and_true, true_and]
      refine c_findShare hf h0 c.1 o.2 (fun J jo j10 jf => ?_)
      have iJ : INV J := by
        refine INV.sr p c m i r t ms k (fun a s z1 z2 z3 z4 => jf a s z1 (by omega) z4) ?_ (Or.inr ⟨j10, jo⟩)
        have s9 : J 308 9 = I 308 9 := jf _ _ (fun z => by unfold scr at z; omega) (by omega) (by omega)
        have s6 : J 308 6 = I 308 6 := jf _ _ (fun z => by unfold scr at z; omega) (by omega) (by omega)
        have s7 : J 308 7 = I 308 7 := jf _ _ (fun z => by unfold scr at z; omega) (by omega) (by omega)
        have s11 : J 311 = I 311 := funext fun s => jf _ _ (fun z => by unfold scr at z; omega) (by omega) (by omega)
        unfold ORD
        rw [s9, s6, s7, s11]
        rcases o.1 with z | ⟨z1, z2, z3⟩
        · exact Or.inl z
        · exact Or.inr ⟨z1, jo.1, z3⟩
      have mj : TNW J f := ⟨fun q hq => by rw [jf _ _ (fun z => by unfold scr at z; omega) (by omega) (by omega)]; exact m.1 q hq, by rw [jf _ _ (fun z => by unfold scr at z; omega) (by omega) (by omega)]; exact m.2.2.1⟩
      have p4 : 4 ^ tw f ≤ 4 ^ 7 := Nat.pow_le_pow_right (by omega) hw.2
      have mdl : ∀ w : Int32, (x = -nI 1 → w = (shrS f).1) → (∀ n, n < 2147483648 → x = nI n → w = if n < tw f ∧ ¬ (shrS f).1 = (-nI 1000000) then nI ((shrS f).2.getD n 0) else (-nI 1000000)) → wp_X8_share x J (fun r' K => w = r' ∧ INV K) := by
        intro w w1 w3
        have j7 : J 316 7 = nI (tw f) := by rw [mj.1 7 (by omega), hw.1]
        have g7 : 7 < 1372 := by omega
        unfold wp_X8_share
        rw [mj.2, decide_eq_true h0, i1_0]
        simp (disch := omega) only [Bool.true_eq_false, Bool.false_eq_true, false_implies, true_implies, not_true_eq_false, not_false_eq_true, and_true, true_and, hx, nIvp, nIcl, g7, j7]
        refine ⟨_, m_sh_loop (I := J) (r := shrS f) hf (fun L x3 x4 lF lB => ?_) (4 ^ tw f) 0 ((-nI 1000000), []) _ _ J (by omega) (by unfold shrS; rw [seqs_dig]) ⟨rfl, Or.inl ⟨rfl, rfl⟩⟩ (FRA.rf J) mj⟩
        have iL : INV L := iJ.fr lF
        obtain ⟨l1, l2⟩ := lB
        rcases l2 with ⟨l2, l3⟩ | ⟨l2, u, hu, l3, l4⟩
        · refine ⟨fun _ => ⟨?_, iL⟩, fun z => absurd l3 z⟩
          by_cases e1 : x = -nI 1
          · rw [w1 e1, l2]
          · obtain ⟨n, hn, en⟩ := ge1_cases hx e1
            rw [w3 n hn en, if_neg (fun q => q.2 l2)]
        · have un : ¬ nI u = (-nI 1000000) := by rw [nIneg (by omega) (by omega) (by omega)]; exact not_false
          refine ⟨fun z => absurd (by rw [← l3]; exact z) un, fun _ => ?_⟩
          by_cases e1 : x = -nI 1
          · have a1 : x < nI (tw f) := by rw [e1]; exact neg_lt (by decide) (by omega)
            have a2 : ¬ (0 : Int32) ≤ x := by rw [e1]; decide
            simp only [a1, a2, Bool.true_eq_false, Bool.false_eq_true, false_implies, true_implies, not_true_eq_false, not_false_eq_true, and_true, true_and]
            rw [l1]
            exact ⟨w1 e1, iL⟩
          · obtain ⟨n, hn, rfl⟩ := ge1_cases hx e1
            have w3 := w3 n hn rfl
            rw [nIlt hn (by omega)]
            simp (disch := omega) only [nI0le, Bool.true_eq_false, Bool.false_eq_true, false_implies, true_implies, not_true_eq_false, not_false_eq_true, and_true, true_and]
            refine ⟨fun e3 => ?_, fun e3 => ?_⟩
            · rw [if_pos ⟨e3, l2⟩, l4, dig_get _ _ _ e3] at w3
              rw [l3, dig_i (m := tw f - 1 - n) (by omega) hw.2 (by omega)]
              exact ⟨w3, iL⟩
            · rw [if_neg (fun q => e3 q.1)] at w3; exact ⟨w3, iL⟩
      refine ⟨fun e1 => ?_, fun e1 => ?_⟩
      · obtain ⟨n, hn, rfl⟩ := ge1_cases hx e1
        have un : ∀ z : Int32, (z = if n < tw f ∧ ¬ (shrS f).1 = (-nI 1000000) then nI ((shrS f).2.getD n 0) else (-nI 1000000)) → wp_X8_share (nI n) J (fun r' K => z = r' ∧ INV K) := fun z hz => mdl z (fun q => absurd q e1) (fun n' hn' q => by
          rw [nIeq hn hn'] at q
          subst q; exact hz)
        unfold wp_X5_shareAt
        rw [jo.1, jo.2.1, hw.1, nIle (by omega) hn, nIle (by omega) hn]
        simp (disch := omega) only [nIlt0, Bool.true_eq_false, Bool.false_eq_true, false_implies, true_implies, not_true_eq_false, not_false_eq_true, and_true, true_and]
        refine ⟨fun e3 => un _ (by rw [if_neg (fun q => q.2 e3)]), fun e3 => ⟨fun e4 => un _ (by rw [if_neg (fun q => by omega)]), fun e4 => ⟨fun e5 => by omega, fun e5 => ?_⟩⟩⟩
        rw [nIvp hn (by omega), nIcl hn, jo.2.2 e3 n (by omega)]
        exact ⟨by omega, un _ (by rw [if_pos ⟨by omega, e3⟩])⟩
      · rw [jo.2.1]
        exact mdl _ (fun _ => rfl) (fun n hn q => by
          rw [e1] at q
          exact absurd q.symm (by rw [nIneg hn (by omega) (by omega)]; exact not_false))
    · simp only [hx, Bool.true_eq_false, Bool.false_eq_true, false_implies, true_implies, not_true_eq_false, not_false_eq_true, and_true, true_and]
      unfold wp_X8_share
      rw [m.2.2.1, decide_eq_true h0, i1_0]
      simp only [Bool.true_eq_false, Bool.false_eq_true, false_implies, true_implies, not_true_eq_false, not_false_eq_true, and_true, true_and, hx]
      exact v
  · rw [decide_eq_false h0]
    simp only [Bool.true_eq_false, Bool.false_eq_true, false_implies, true_implies, not_true_eq_false, not_false_eq_true, and_true, true_and]
    unfold wp_X8_share
    rw [m.2.2.1, decide_eq_false h0, i1_0]
    simp only [Bool.true_eq_false, Bool.false_eq_true, false_implies, true_implies, not_true_eq_false, not_false_eq_true, and_true, true_and]
    exact v

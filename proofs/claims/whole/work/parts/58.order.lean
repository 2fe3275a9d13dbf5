/-! ===== order ===== -/
theorem BK.weak {s : Prop} {I : II} {j : Nat} {f : TW} (h : BK s I j f) : BK False I j f :=
  ⟨h.1, fun t ht => ⟨(h.2.1 t ht).1, (h.2.1 t ht).2.1, (h.2.1 t ht).2.2.1, (h.2.1 t ht).2.2.2.1, fun z => z.elim⟩, h.2.2⟩
section ORDER
variable {I : II} {f : TW}
theorem c_mr_loop {Q k : II → Prop} (hf : WF f) (hk : ∀ J, (∀ j, j ≤ tw f → BK False J (29 + j) f) → (∀ a, ¬ (232 ≤ a ∧ a < 296) → J a = I a) → k J) (h : BK True I 0 f) (h4 : I 308 4 = nI (tw f)) : ∀ (d t : Nat) (J : II), t + d = tw f + 1 → (∀ j, j < t → BK False J (29 + j) f) → (∀ a, ¬ (232 ≤ a ∧ a < 296) → J a = I a) → wp_X5_makeReady_23 0 Q k (d + 1) (nI t) J := by
  have w7 := hf.w.2
  intro d
  induction d with
  | zero =>
    intro t J ht h1 h2
    rw [wp_X5_makeReady_23.eq_2, h2 308 (by omega), h4]
    have c : tw f < t := by omega
    simp (disch := omega) only [nIlt, c, Bool.true_eq_false, Bool.false_eq_true, false_implies, true_implies, not_true_eq_false, not_false_eq_true, and_true, true_and]
    exact hk J (fun j hj => h1 j (by omega)) h2
  | succ d ih =>
    intro t J ht h1 h2
    rw [wp_X5_makeReady_23.eq_2, h2 308 (by omega), h4]
    have c : ¬ tw f < t := by omega
    have t8 : t < 8 := by omega
    simp (disch := omega) only [nIlt, c, Bool.true_eq_false, Bool.false_eq_true, false_implies, true_implies, not_true_eq_false, not_false_eq_true, and_true, true_and, nIvp, nIcl, t8, nI_add]
    have jb : BK True J 0 f := h.fr (fun a _ _ => h2 a (by omega))
    refine c_takeAll (by omega) (fun K hK => ih (t + 1) K (by omega) (fun j hj => ?_) (fun a ha => ?_))
    · by_cases e : j = t
      · subst e; exact (hK.bk jb hf.n.2 w7).weak
      · exact (h1 j (by omega)).fr (fun a a1 a2 => hK.2.2.2 a (by omega))
    · rw [hK.2.2.2 a (by omega), h2 a ha]
theorem c_makeReady {Q : II → Prop} (hf : WF f) (h : BK True I 0 f) (hq : ∀ J, (∀ j, j ≤ tw f → BK False J (29 + j) f) → J 308 4 = nI (tw f) → J 308 5 = f 4 → (∀ a s, ¬ (232 ≤ a ∧ a < 296) → ¬ (a = 308 ∧ (s = 4 ∨ s = 5)) → J a s = I a s) → Q J) : wp_X5_makeReady 0 I Q := by
  have hw := hf.w
  unfold wp_X5_makeReady
  have em : (if nI 7 < I (8 * 0) 7 then nI 7 else I (8 * 0) 7) = nI (tw f) := by
    rw [h.1.2.2.2.2.2.2.2, hw.1, if_neg (by rw [nIlt (by omega) (by omega)]; omega)]
  have e5 : su I 308 4 (nI (tw f)) (8 * 0) 5 = f 4 := by rw [su_cell (by omega)]; exact h.1.2.2.2.2.2.1
  simp only [forall_eq, em, e5]
  have h' : BK True (su (su I 308 4 (nI (tw f))) 308 5 (f 4)) 0 f := h.fr (fun a _ _ => by rw [su_cell (by omega), su_cell (by omega)])
  have h4' : su (su I 308 4 (nI (tw f))) 308 5 (f 4) 308 4 = nI (tw f) := by rw [su_slot (by omega), su_eq]
  refine ⟨_, c_mr_loop (k := fun I => Q I) hf (fun J j1 j2 => hq J j1 ?_ ?_ (fun a s z1 z2 => ?_)) h' h4' (tw f + 1) 0 _ (by omega) (fun j hj => absurd hj (by omega)) (fun _ _ => rfl)⟩
  · rw [j2 308 (by omega)]; exact h4'
  · rw [j2 308 (by omega), su_eq]
  · rw [j2 a z1, su2 (by omega), su2 (by omega)]
theorem BTS_qb (hf : WF f) : BTS (qbT f (tw f)) = srt f := by
  unfold BTS srt
  refine List.filter_congr (fun p hp => ?_)
  have := List.mem_range.mp hp
  rw [hasB_bt (by omega), bt_qb hf (by omega) _ (Nat.le_refl _)]; rfl
theorem ordS_ne (hf : WF f) : (ordS f).1 ≠ -nI 1 := by
  obtain ⟨-, ⟨M, hM⟩, -⟩ := prm_chain (tw f) (srt f) (srt_len hf) (srt_pw f)
  unfold ordS
  rw [hM, List.foldl_append]
  exact bO_first hf (LNE.of hf (by rw [hM]; simp))
def ORK (J : II) (f : TW) : Prop := J 308 4 = f 7 ∧ J 308 6 = (ordS f).1 ∧ J 308 7 = (ordS f).2.1 ∧ ∀ k, k < tw f → J 311 k = nI ((ordS f).2.2.getD k 0)
theorem c_findOrder {Q : II → Prop} (hf : WF f) (h0 : 0 < tn f) (h : BK True I 0 f) (ho : ORD I f) (hq : ∀ J, ORK J f → J 308 9 = nI 1 → (∀ a s, ¬ scr a s → ¬ (a = 308 ∧ (s = 4 ∨ s = 5 ∨ s = 6 ∨ s = 7 ∨ s = 9)) → a ≠ 311 → J a s = I a s) → Q J) : wp_X5_findOrder 0 I Q := by
  have w7 := hf.w.2
  unfold wp_X5_findOrder
  refine ⟨fun e => ?_, fun e => ?_⟩
  · refine c_makeReady hf h (fun J j1 j2 j3 j4 => ?_)
    simp only [forall_eq]
    generalize hK : su (su J 308 6 (-nI 1)) 308 7 (-nI 1) = K
    have kc : ∀ a, a ≠ 308 → K a = J a := fun a ha => by rw [← hK, su_cell ha, su_cell ha]
    have kb : BK True K 0 f := h.fr (fun a a1 a2 => funext fun s => by rw [kc a (by omega), j4 a s (by omega) (by omega)])
    refine c_queuedBits kb hf ?_
    have e10 : 10 = tw f + 1 + (9 - tw f) := by omega
    rw [e10]
    have bq := BTS_qb hf
    have sl := srt_len hf
    refine c_ord hf h0 (tw f) 0 (by omega) [] (qbT f (tw f)) (-nI 1, nI 0, []) K _ (9 - tw f) rfl (by rw [bq, sl]) (by rw [bq]; exact nd_lt (srt_pw f)) (fun p hp => by rw [bq] at hp; exact srt_mem.mp hp) ((j1 0 (by omega)).fr (fun a a1 a2 => kc a (by omega))) (fun j hj1 hj2 => ⟨f, (j1 j hj2).fr (fun a a1 a2 => kc a (by omega)), fun _ _ _ _ _ => rfl⟩) ?_ ?_ (fun i hi => absurd hi (by omega)) ⟨Or.inl rfl, ?_, Or.inl rfl⟩ (fun L lF lV lB => ?_)
    · rw [← hK, su_slot (by omega), su_slot (by omega)]; exact j2
    · rw [← hK, su_slot (by omega), su_slot (by omega)]; exact j3
    · rw [← hK, su_slot (by omega), su_eq]
    · rw [bq] at lB
      have lB : OB L f (ordS f) := by
        unfold ordS
        have : (prm (tw f) (srt f)).map (fun r => [] ++ r) = prm (tw f) (srt f) := by simp
        rw [this] at lB; exact lB
      obtain ⟨b1, b2, b3⟩ := lB
      have b3 := b3.resolve_left (ordS_ne hf)
      have l4 : L 308 4 = nI (tw f) := by rw [lF 308 4 (by omega) (by omega) (by omega) (by omega), ← hK, su_slot (by omega), su_slot (by omega)]; exact j2
      refine hq _ ⟨?_, ?_, ?_, fun k hk => ?_⟩ (su_eq _ _ _ _) (fun a s z1 z2 z3 => ?_)
      · rw [su_slot (by omega), l4, hf.w.1]
      · rw [su_slot (by omega)]; exact b2
      · rw [su_slot (by omega)]; exact b3.1
      · rw [su_cell (by omega)]; exact b3.2 k hk
      · unfold scr at z1
        rw [su2 (by omega), lF a s (by omega) (by omega) (by omega) z3, ← hK, su2 (by omega), su2 (by omega), j4 a s (by omega) (by omega)]
  · rcases ho with z | ⟨z, o⟩
    · exact absurd (by rw [z]; rfl) e
    · exact hq I o z (fun _ _ _ _ _ => rfl)
end ORDER
theorem INV.sr {I J : II} {f : TW} {sz lt : Nat} {h : Nat → TW} (p : PH f sz h) (c : AC I f sz lt h) (m : AM I f sz h) (i : IMG I) (r : ROW I) (t : TAP I) (ms : MSC I) (k : ASK I) (e : ∀ a s, ¬ scr a s → a ≠ 308 → a ≠ 311 → a ≠ 312 → J a s = I a s) (o1 : ORD J f) (o2 : SHR J f) : INV J := by
  have ec : ∀ a, (∀ k, ¬ scr a k) → a ≠ 308 → a ≠ 311 → a ≠ 312 → J a = I a := fun a ha h1 h2 h3 => funext fun k => e a k (ha k) h1 h2 h3
  refine ⟨f, sz, lt, h, p, c.fr (fun q hq => ec q (fun k z => by unfold scr at z; omega) (by omega) (by omega) (by omega)), m.fr p.2.2.1 (fun k hk => e 316 k (fun z => by unfold scr at z; omega) (by omega) (by omega) (by omega)) ⟨e _ _ (fun z => by unfold scr at z; omega) (by omega) (by omega) (by omega), e _ _ (fun z => by unfold scr at z; omega) (by omega) (by omega) (by omega)⟩, ⟨o1, o2⟩, i.fr (fun q hq => ec q (fun k z => by unfold scr at z; omega) (by omega) (by omega) (by omega)) (fun k h1 h2 => e 316 k (fun z => by unfold scr at z; omega) (by omega) (by omega) (by omega)) (fun z => by rw [e 315 1 (fun z => by unfold scr at z; omega) (by omega) (by omega) (by omega)]; exact z), r.fr (fun q hq => ec q (fun k z => by unfold scr at z; omega) (by omega) (by omega) (by omega)), t.fr ⟨?_, ?_⟩ ⟨?_, ?_⟩, ms.fr ⟨?_, ?_, ?_, ?_⟩, k.fr ⟨?_, ?_⟩ ⟨?_, ?_⟩⟩
  all_goals first | exact ec _ (fun k z => by unfold scr at z; omega) (by omega) (by omega) (by omega) | exact e _ _ (fun z => by unfold scr at z; omega) (by omega) (by omega) (by omega)
theorem ge2_cases {x : Int32} (h : -nI 2 ≤ x) (h1 : ¬ x = -nI 1) (h2 : ¬ x = -nI 2) : ∃ n, n < 2147483648 ∧ x = nI n := by
  rcases i32_cases x with hx | h
  · exfalso
    have a := Int32.le_iff_toInt_le.mp h
    have b := Int32.lt_iff_toInt_lt.mp hx
    have c : ¬ x.toInt = (-nI 1 : Int32).toInt := fun e => h1 (Int32.toInt_inj.mp e)
    have d : ¬ x.toInt = (-nI 2 : Int32).toInt := fun e => h2 (Int32.toInt_inj.mp e)
    have e1 : (-nI 1 : Int32).toInt = -1 := by decide
    have e2 : (-nI 2 : Int32).toInt = -2 := by decide
    have e0 : (0 : Int32).toInt = 0 := by decide
    omega
  · exact h
theorem s_order (x : Int32) : SIM (wp_X7_order x) (wp_X8_order x) := by
  intro I v
  obtain ⟨f, sz, lt, h, p, c, m, o, i, r, t, ms, k⟩ := id v
  have hf := p.1
  have hw := hf.w
  unfold wp_X7_order
  rw [c_isThere c.1 hf, i1_0]
  by_cases h0 : 0 < tn f
  · rw [decide_eq_true h0]
    simp only [Bool.true_eq_false, Bool.false_eq_true, false_implies, true_implies, not_true_eq_false, not_false_eq_true, and_true, true_and]
    by_cases hx : -nI 2 ≤ x
    · simp only [hx, Bool.true_eq_false, Bool.false_eq_true, false_implies, true_implies, not_true_eq_false, not_false_eq_true, and_true, true_and]
      refine c_findOrder hf h0 c.1 o.1 (fun J jo j9 jf => ?_)
      have iJ : INV J := by
        refine INV.sr p c m i r t ms k (fun a s z1 z2 z3 z4 => jf a s z1 (by omega) z3) (Or.inr ⟨j9, jo⟩) ?_
        have s10 : J 308 10 = I 308 10 := jf _ _ (fun z => by unfold scr at z; omega) (by omega) (by omega)
        have s8 : J 308 8 = I 308 8 := jf _ _ (fun z => by unfold scr at z; omega) (by omega) (by omega)
        have s12 : J 312 = I 312 := funext fun s => jf _ _ (fun z => by unfold scr at z; omega) (by omega) (by omega)
        unfold SHR
        rw [s10, s8, s12]
        rcases o.2 with z | ⟨z1, z2, z3⟩
        · exact Or.inl z
        · exact Or.inr ⟨z1, jo.1, z3⟩
      have mj : TNW J f := ⟨fun q hq => by rw [jf _ _ (fun z => by unfold scr at z; omega) (by omega) (by omega)]; exact m.1 q hq, by rw [jf _ _ (fun z => by unfold scr at z; omega) (by omega) (by omega)]; exact m.2.2.1⟩
      have mdl : ∀ w : Int32, (x = -nI 1 → w = (ordS f).1) → (x = -nI 2 → w = (ordS f).2.1) → (∀ n, n < 2147483648 → x = nI n → w = if n < tw f then nI ((ordS f).2.2.getD n 0) else (-nI 1000000)) → wp_X8_order x J (fun r' K => w = r' ∧ INV K) := by
        intro w w1 w2 w3
        have j7 : J 316 7 = nI (tw f) := by rw [mj.1 7 (by omega), hw.1]
        have g7 : 7 < 1372 := by omega
        unfold wp_X8_order
        rw [mj.2, decide_eq_true h0, i1_0]
        simp (disch := omega) only [Bool.true_eq_false, Bool.false_eq_true, false_implies, true_implies, not_true_eq_false, not_false_eq_true, and_true, true_and, hx, nIvp, nIcl, g7, j7]
        refine m_layLine hf mj (fun K kl kf => ?_)
        obtain ⟨⟨M, hM⟩, ⟨M2, hM2⟩, hC⟩ := prm_chain (tw f) (srt f) (srt_len hf) (srt_pw f)
        refine ⟨_, m_39_loop (I := K) (r := ordS f) hf (fun L lF lB => ?_) M (srt f) (-nI 1, nI 0, []) K (by rw [← hM]; exact hC) ⟨M2, (srt f).reverse, by rw [← hM]; exact hM2, ?_⟩ (fun l hl => LNE.of hf (by rw [hM]; exact hl)) (by unfold ordS; rw [hM]) kl (Or.inl rfl) (FRA.rf K) (mj.fr kf)⟩
        · have lB := lB.resolve_left (ordS_ne hf)
          have iL : INV L := iJ.fr (kf.tr lF)
          refine ⟨fun e1 => ⟨fun e2 => ?_, fun e2 => ⟨w2 e2, iL⟩⟩, fun e1 => ⟨w1 e1, iL⟩⟩
          obtain ⟨n, hn, rfl⟩ := ge2_cases hx e1 e2
          have w3 := w3 n hn rfl
          rw [nIle (by omega) hn]
          refine ⟨fun e3 => ?_, fun e3 => ?_⟩
          · rw [if_neg (by omega)] at w3; exact ⟨w3, iL⟩
          · rw [if_pos (by omega)] at w3
            rw [nIvp hn (by omega), nIcl hn, lB n (by omega)]
            exact ⟨by omega, w3, iL⟩
        · show List.Pairwise _ _
          rw [List.pairwise_reverse]; exact srt_pw f
      refine ⟨fun e2 => ⟨fun e1 => ?_, fun e1 => ?_⟩, fun e2 => ?_⟩
      · obtain ⟨n, hn, rfl⟩ := ge2_cases hx e1 e2
        unfold wp_X5_orderAt
        rw [jo.1, hw.1, nIle (by omega) hn, nIle (by omega) hn]
        simp (disch := omega) only [nIlt0, Bool.true_eq_false, Bool.false_eq_true, false_implies, true_implies, not_true_eq_false, not_false_eq_true, and_true, true_and]
        have un : ∀ z : Int32, (z = if n < tw f then nI ((ordS f).2.2.getD n 0) else (-nI 1000000)) → wp_X8_order (nI n) J (fun r' K => z = r' ∧ INV K) := fun z hz => mdl z (fun q => absurd q e1) (fun q => absurd q e2) (fun n' hn' q => by
          rw [nIeq hn hn'] at q
          subst q; exact hz)
        refine ⟨fun e3 => un _ (by rw [if_neg (by omega)]), fun e3 => ⟨fun e4 => by omega, fun e4 => ?_⟩⟩
        rw [nIvp hn (by omega), nIcl hn, jo.2.2.2 n (by omega)]
        exact ⟨by omega, un _ (by rw [if_pos (by omega)])⟩
      · rw [jo.2.1]
        exact mdl _ (fun _ => rfl) (fun q => absurd q e2) (fun n hn q => by
          rw [e1] at q
          exact absurd q.symm (by rw [nIneg hn (by omega) (by omega)]; exact not_false))
      · rw [jo.2.2.1]
        exact mdl _ (fun q => by rw [e2] at q; exact absurd q (by decide)) (fun _ => rfl) (fun n hn q => by
          rw [e2] at q
          exact absurd q.symm (by rw [nIneg hn (by omega) (by omega)]; exact not_false))
    · simp only [hx, Bool.true_eq_false, Bool.false_eq_true, false_implies, true_implies, not_true_eq_false, not_false_eq_true, and_true, true_and]
      unfold wp_X8_order
      rw [m.2.2.1, decide_eq_true h0, i1_0]
      simp only [Bool.true_eq_false, Bool.false_eq_true, false_implies, true_implies, not_true_eq_false, not_false_eq_true, and_true, true_and, hx]
      exact v
  · rw [decide_eq_false h0]
    simp only [Bool.true_eq_false, Bool.false_eq_true, false_implies, true_implies, not_true_eq_false, not_false_eq_true, and_true, true_and]
    unfold wp_X8_order
    rw [m.2.2.1, decide_eq_false h0, i1_0]
    simp only [Bool.true_eq_false, Bool.false_eq_true, false_implies, true_implies, not_true_eq_false, not_false_eq_true, and_true, true_and]
    exact v

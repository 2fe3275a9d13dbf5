/-! ===== the class tries all orders ===== -/
def LV (I : II) (f : TW) (j : Nat) : Prop := ∃ h, BK False I j h ∧ ∀ q, q < 41 → q ≠ 3 → q ≠ 4 → q ≠ 5 → h q = f q
def BTS (x : Int32) : List Nat := (List.range 7).filter (fun p => hasB x (nI p))
def FRT (k : Nat) (I J : II) : Prop := ∀ a s, ¬ (8 * (30 + k) ≤ a ∧ a < 296) → ¬ (a = 310 ∧ k ≤ s) → ¬ (a = 308 ∧ (s = 6 ∨ s = 7)) → a ≠ 311 → J a s = I a s
theorem FRT.rf (k : Nat) (I : II) : FRT k I I := fun _ _ _ _ _ _ => rfl
theorem FRT.tr {k : Nat} {I J K : II} (h : FRT k I J) (g : FRT k J K) : FRT k I K := fun a s h1 h2 h3 h4 => (g a s h1 h2 h3 h4).trans (h a s h1 h2 h3 h4)
theorem FRT.up {k : Nat} {I J : II} (h : FRT (k + 1) I J) : FRT k I J := fun a s h1 h2 h3 h4 => h a s (by omega) (by omega) h3 h4
theorem FRT.out {k : Nat} {I J : II} (hk : k < 7) (h : OUT (30 + k) I J) : FRT k I J := fun a s h1 h2 h3 h4 => by rw [h a (by omega)]
def OB (I : II) (f : TW) (b : Int32 × Int32 × List Nat) : Prop := (b.1 = -nI 1 ∨ ∃ n, n ≤ 7 ∧ b.1 = nI n) ∧ I 308 6 = b.1 ∧ (b.1 = -nI 1 ∨ (I 308 7 = b.2.1 ∧ ∀ i, i < tw f → I 311 i = nI (b.2.2.getD i 0)))
theorem OB.fr {I J : II} {f : TW} {b : Int32 × Int32 × List Nat} (h : OB I f b) (e : J 308 = I 308 ∧ J 311 = I 311) : OB J f b := by
  unfold OB; rw [e.1, e.2]; exact h
theorem LV.fr {I J : II} {f : TW} {j : Nat} (h : LV I f j) (e : ∀ a, 8 * j ≤ a → a < 8 * j + 8 → J a = I a) : LV J f j := by
  obtain ⟨g, h1, h2⟩ := h
  exact ⟨g, h1.fr e, h2⟩
section TRYO
variable {I : II} {f g : TW}
theorem c_tcL {Q : II → Prop} {o j : Nat} (hjo : j ≠ o) (hf : WF f) (hb : BK False I o g) (hs : ∀ q, q < 41 → q ≠ 3 → q ≠ 4 → q ≠ 5 → g q = f q) (hv : LV I f j) (hq : ∀ J, BK False J j g → OUT j I J → Q J) : wp_X1_takeCourse j o I Q := by
  obtain ⟨h, vb, vs⟩ := hv
  have hg : ∀ q, q < 41 → q ≠ 3 → q ≠ 4 → q ≠ 5 → h q = g q := fun q a b c d => by rw [vs q a b c d, hs q a b c d]
  have en : tn h = tn g := by rw [tn, tn, hg 0 (by omega) (by omega) (by omega) (by omega)]
  have ew : tw h = tw g := by rw [tw, tw, hg 7 (by omega) (by omega) (by omega) (by omega)]
  have eg : tn g = tn f := by rw [tn, tn, hs 0 (by omega) (by omega) (by omega) (by omega)]
  have egw : tw g = tw f := by rw [tw, tw, hs 7 (by omega) (by omega) (by omega) (by omega)]
  have n4 := hf.n.2
  have w7 := hf.w.2
  refine c_takeCourse hjo (fun J j1 j2 j3 => hq J ⟨⟨?_, ?_, ?_, ?_, ?_, ?_, ?_, ?_⟩, fun t ht => ?_, fun k hk => ?_, fun p hp => ?_, fun p hp hk => ?_⟩ (fun a ha => j1 a (by omega) (by omega)))
  · rw [j2 0, if_neg (by omega), vb.1.1, hg 1 (by omega) (by omega) (by omega) (by omega)]
  · rw [j2 1, if_neg (by omega), vb.1.2.1, hg 2 (by omega) (by omega) (by omega) (by omega)]
  · rw [j2 2, if_neg (by omega), vb.1.2.2.1, hg 0 (by omega) (by omega) (by omega) (by omega)]
  · rw [j2 3, if_neg (by omega), vb.1.2.2.2.1, hg 6 (by omega) (by omega) (by omega) (by omega)]
  · rw [j2 4, if_pos (by omega)]; exact hb.1.2.2.2.2.1
  · rw [j2 5, if_pos (by omega)]; exact hb.1.2.2.2.2.2.1
  · rw [j2 6, if_pos (by omega)]; exact hb.1.2.2.2.2.2.2.1
  · rw [j2 7, if_neg (by omega), vb.1.2.2.2.2.2.2.2, hg 7 (by omega) (by omega) (by omega) (by omega)]
  · obtain ⟨a1, a2, a3, -, -⟩ := vb.2.1 t (by rw [en]; exact ht)
    have b4 := (hb.2.1 t ht).2.2.2.1
    rw [j1 _ (by omega) (by omega), j1 _ (by omega) (by omega), j1 _ (by omega) (by omega), j3 t (by omega), a1, a2, a3, b4, hg _ (by omega) (by omega) (by omega) (by omega), hg _ (by omega) (by omega) (by omega) (by omega), hg _ (by omega) (by omega) (by omega) (by omega)]
    exact ⟨rfl, rfl, rfl, rfl, fun z => z.elim⟩
  · rw [j1 _ (by omega) (by omega), vb.2.2.1 k (by rw [ew]; exact hk), hg _ (by omega) (by omega) (by omega) (by omega)]
  · rw [j2 9, if_neg (by omega), vb.2.2.2.1 p hp, hg _ (by omega) (by omega) (by omega) (by omega)]
  · rw [← hg _ (by omega) (by omega) (by omega) (by omega)] at hk
    obtain ⟨a1, a2⟩ := vb.2.2.2.2 p hp hk
    rw [j2 8, if_neg (by omega), j1 _ (by omega) (by omega), a1, a2, hg _ (by omega) (by omega) (by omega) (by omega), hg _ (by omega) (by omega) (by omega) (by omega)]
    exact ⟨rfl, rfl⟩
theorem c_keepOrder {Q : II → Prop} {P : List Nat} {b : Int32 × Int32 × List Nat} (hf : WF f) (h : LNE f P) (hp : ∀ i, i < tw f → I 310 i = nI (P.getD i 0)) (hb : OB I f b) (hq : ∀ J, (∀ a s, ¬ (a = 308 ∧ (s = 6 ∨ s = 7)) → a ≠ 311 → J a s = I a s) → OB J f (bO f b P) → Q J) : wp_X5_keepOrder (evP f P) (evL f P) I Q := by
  obtain ⟨b1, b2, b3⟩ := hb
  obtain ⟨n, hn, en⟩ := evP_nI hf h
  have w7 := hf.w.2
  have nN : ¬ nI n = -nI 1 := by rw [nIneg (by omega) (by omega) (by omega)]; exact not_false
  have yes : (b.1 < evP f P ∨ (evP f P = b.1 ∧ b.2.1 < evL f P)) → wp_X5_keepOrder_24 Q (evP f P) (evL f P) I := fun c => by
    have eb : bO f b P = (evP f P, evL f P, P) := by unfold bO; rw [if_pos c]
    rw [eb] at hq
    unfold wp_X5_keepOrder_24
    simp (disch := omega) only [nIlt0, nIcl, forall_eq, Bool.true_eq_false, Bool.false_eq_true, false_implies, true_implies, not_true_eq_false, not_false_eq_true, and_true, true_and]
    refine ⟨by omega, by omega, hq _ (fun a s z1 z2 => ?_) ⟨Or.inr ⟨n, hn, en⟩, ?_, Or.inr ⟨?_, fun i hi => ?_⟩⟩⟩
    · simp only [va_up]
      rw [if_neg z2, su2 (by omega), su2 (by omega)]
    · simp only [va_up]
      rw [if_neg (by omega), su_slot (by omega), su_eq]
    · simp only [va_up]
      rw [if_neg (by omega), su_eq]
    · simp only [va_up]
      rw [if_pos trivial, pk_cpy_in (by omega) (by omega), su_cell (by omega), su_cell (by omega), Nat.zero_add, Nat.sub_zero]
      exact hp i hi
  have no : ¬ (b.1 < evP f P ∨ (evP f P = b.1 ∧ b.2.1 < evL f P)) → Q I := fun c => by
    have eb : bO f b P = b := by unfold bO; rw [if_neg c]
    rw [eb] at hq
    exact hq I (fun _ _ _ _ => rfl) ⟨b1, b2, b3⟩
  unfold wp_X5_keepOrder
  rw [b2]
  refine ⟨fun c => yes (Or.inl c), fun c => ⟨fun c2 => no (fun u => by rcases u with u | u; exact c u; exact c2 u.1), fun c2 => ?_⟩⟩
  have b7 : I 308 7 = b.2.1 := by
    rcases b3 with z | z
    · rw [z, en] at c2; exact absurd c2 nN
    · exact z.1
  rw [b7]
  refine ⟨fun c3 => no (fun u => ?_), fun c3 => yes (Or.inr ⟨c2, ?_⟩)⟩
  · rcases u with u | u
    · exact c u
    · rw [i32_le] at c3; exact c3 u.2
  · rw [i32_le, Classical.not_not] at c3; exact c3
theorem BTS_mem {x : Int32} {p : Nat} : p ∈ BTS x ↔ p < 7 ∧ hasB x (nI p) = true := by
  unfold BTS; rw [List.mem_filter, List.mem_range]
theorem BTS_pw (x : Int32) : (BTS x).Pairwise (· < ·) := (List.pairwise_lt_range (n := 7)).filter _
theorem BTS_del {x : Int32} {p : Nat} (hp : p < 7) : BTS (x &&& ((nI 1 <<< (nI p &&& 31)) ^^^ -nI 1)) = (BTS x).erase p := by
  rw [List.Nodup.erase_eq_filter (nd_lt (BTS_pw x))]
  unfold BTS
  rw [List.filter_filter]
  refine List.filter_congr (fun q hq => ?_)
  have q7 := List.mem_range.mp hq
  rw [hasB_bt (by omega), b_and, b_xor, bt_bit (by omega) (by omega), b_n1 _ (by omega), ← hasB_bt (by omega)]
  by_cases e : p = q
  · subst e; simp
  · have : ¬ q = p := by omega
    simp [e, this]
theorem prm_fold (m : Nat) (l P : List Nat) (b : Int32 × Int32 × List Nat) : ((prm (m + 1) l).map (fun r => P ++ r)).foldl (bO f) b = l.foldl (fun b x => ((prm m (l.erase x)).map (fun r => (P ++ [x]) ++ r)).foldl (bO f) b) b := by
  rw [prm, List.map_flatMap, List.foldl_flatMap]
  congr 1
  funext b x
  rw [List.map_map]
  congr 2
  funext r
  simp
def TL (x : Int32) (i : Nat) : List Nat := (List.range' i (7 - i)).filter (fun p => hasB x (nI p))
theorem TL_s {x : Int32} {i : Nat} (h : i < 7) : TL x i = (if hasB x (nI i) then [i] else []) ++ TL x (i + 1) := by
  unfold TL
  rw [show 7 - i = (7 - (i + 1)) + 1 by omega, List.range'_succ, List.filter_cons]
  split <;> rfl
theorem TL_0 (x : Int32) : TL x 0 = BTS x := by unfold TL BTS; rw [List.range_eq_range']
theorem TL_7 (x : Int32) : TL x 7 = [] := rfl
theorem evP_pre {P r : List Nat} (hf : WF f) (h : LNE f (P ++ r)) : ∃ a b, a ≤ P.length ∧ b ≤ r.length ∧ csT f P 4 = f 4 + nI a ∧ evP f (P ++ r) = nI (a + b) := by
  have n4 := hf.n.2
  obtain ⟨a, ha, ea⟩ := cs_4 n4 P
  obtain ⟨b, hb, eb⟩ := cs_4 (g := csT f P) (by rw [cs_n n4]; exact n4) r
  refine ⟨a, b, ha, hb, ea, ?_⟩
  rw [evP_cs hf h]
  have : csT f (P ++ r) = csT (csT f P) r := by unfold csT; rw [List.foldl_append]
  rw [this, eb, ea, Int32.add_assoc, nI_add, Int32.add_comm, Int32.add_sub_cancel]
theorem fold_no {L : List (List Nat)} {b : Int32 × Int32 × List Nat} (h : ∀ l, l ∈ L → bO f b l = b) : L.foldl (bO f) b = b := by
  induction L with
  | nil => rfl
  | cons a L ih =>
    show L.foldl (bO f) (bO f b a) = b
    rw [h a (by simp)]
    exact ih (fun l hl => h l (List.mem_cons_of_mem _ hl))
theorem LNE.app {P l r : List Nat} {m : Nat} (h1 : (P ++ l).Nodup) (h2 : ∀ p, p ∈ P ++ l → p < 7 ∧ inQ f p = true) (h3 : P.length + l.length = tw f) (hl : l.length = m) (hr : r ∈ prm m l) : LNE f (P ++ r) := by
  obtain ⟨n1, n2, n3⟩ := List.nodup_append.mp h1
  obtain ⟨r1, r2, r3⟩ := prm_mem m l r hr hl n2
  refine ⟨by rw [List.length_append, r1]; omega, List.nodup_append.mpr ⟨n1, r2, fun a ha b hb => n3 a ha b (r3 b hb)⟩, fun p hp => ?_⟩
  rcases List.mem_append.mp hp with z | z
  · exact h2 p (List.mem_append.mpr (Or.inl z))
  · exact h2 p (List.mem_append.mpr (Or.inr (r3 p z)))
theorem c_ord (hf : WF f) (h0 : 0 < tn f) : ∀ (m k : Nat), k + m = tw f → ∀ (P : List Nat) (rest : Int32) (b : Int32 × Int32 × List Nat) (I : II) (Q : II → Prop) (e : Nat), P.length = k → (BTS rest).length = m → (P ++ BTS rest).Nodup → (∀ p, p ∈ P ++ BTS rest → p < 7 ∧ inQ f p = true) → BK False I (29 + k) (csT f P) → (∀ j, k < j → j ≤ tw f → LV I f (29 + j)) → I 308 4 = nI (tw f) → I 308 5 = f 4 → (∀ i, i < k → I 310 i = nI (P.getD i 0)) → OB I f b → (∀ J, FRT k I J → (∀ j, k < j → j ≤ tw f → LV J f (29 + j)) → OB J f (((prm m (BTS rest)).map (fun r => P ++ r)).foldl (bO f) b) → Q J) → wpd_X5_tryOrders (m + 1 + e) (nI k) rest I Q := by
  have n4 := hf.n.2
  have w7 := hf.w.2
  intro m
  induction m with
  | zero =>
    intro k hk P rest b I Q e hP hl hnd hmem hb hv h4 h5 hpath hO hq
    rw [Nat.add_right_comm, Nat.zero_add]
    show wp_X5_tryOrders (wpd_X5_tryOrders e) (nI k) rest I Q
    have hl0 : BTS rest = [] := List.length_eq_zero_iff.mp hl
    have hne : LNE f P := by
      have := LNE.app (f := f) (m := 0) hnd hmem (by omega) hl (r := []) (by simp [prm])
      rwa [List.append_nil] at this
    have wP := cs_wf hf P hne.2.2
    unfold wp_X5_tryOrders
    rw [nI_clamp (show k < 2147483648 by omega), h4, h5, hb.1.2.2.2.2.2.1]
    have c1 : k ≤ tw f := by omega
    have k8 : k < 8 := by omega
    have ek : (k = tw f) = True := eq_true (by omega)
    simp (disch := omega) only [nIlt0, Bool.true_eq_false, Bool.false_eq_true, false_implies, true_implies, not_true_eq_false, not_false_eq_true, and_true, true_and, nIle, c1, nIvp, nIcl, k8, nIeq, ek]
    refine c_leftTogether hb wP ?_
    rw [cs_n n4, ← evP_cs hf hne, ← evL_cs hf hne]
    refine c_keepOrder hf hne (fun i hi => hpath i (by omega)) hO (fun J jf jo => ?_)
    refine hq J (fun a s z1 z2 z3 z4 => jf a s z3 z4) (fun j hj1 hj2 => by omega) ?_
    rw [hl0]
    show OB J f (bO f b (P ++ []))
    rw [List.append_nil]; exact jo
  | succ m ih =>
    intro k hk P rest b I Q e hP hl hnd hmem hb hv h4 h5 hpath hO hq
    rw [Nat.add_right_comm]
    show wp_X5_tryOrders (wpd_X5_tryOrders (m + 1 + e)) (nI k) rest I Q
    have wP := cs_wf hf P (fun p hp => hmem p (List.mem_append.mpr (Or.inl hp)))
    have nP : tn (csT f P) = tn f := cs_n n4 P
    have sP : ∀ q, q < 41 → q ≠ 3 → q ≠ 4 → q ≠ 5 → csT f P q = f q := fun q a1 a2 a3 a4 => cs_q n4 ⟨a2, a3, a4⟩ a1 P
    obtain ⟨pd, hpd, epd⟩ := cs_4 n4 P
    unfold wp_X5_tryOrders
    rw [nI_clamp (show k < 2147483648 by omega), h4, h5, hb.1.2.2.2.2.2.1, hO.2.1]
    have c1 : k ≤ tw f := by omega
    have k8 : k < 8 := by omega
    have k18 : k + 1 < 8 := by omega
    have ek : ¬ k = tw f := by omega
    have ee : csT f P 4 - f 4 + nI (tw f) - nI k = nI (pd + (m + 1)) := by
      rw [epd, Int32.add_comm (f 4), Int32.add_sub_cancel, nI_add, nIsub (by omega)]; congr 1; omega
    simp (disch := omega) only [nIlt0, Bool.true_eq_false, Bool.false_eq_true, false_implies, true_implies, not_true_eq_false, not_false_eq_true, and_true, true_and, nIle, c1, nIvp, nIcl, k8, k18, nIeq, ek, ee, nI_add]
    refine ⟨fun _ => ?_, fun c => ?_⟩
    · -- all papers, by their numbers
      have loop : ∀ (d i : Nat) (b' : Int32 × Int32 × List Nat) (J : II), i + d = 7 → FRT k I J → (∀ j, k < j → j ≤ tw f → LV J f (29 + j)) → OB J f b' → (TL rest i).foldl (fun b x => ((prm m ((BTS rest).erase x)).map (fun r => (P ++ [x]) ++ r)).foldl (bO f) b) b' = ((prm (m + 1) (BTS rest)).map (fun r => P ++ r)).foldl (bO f) b → wp_X5_tryOrders_80 (wpd_X5_tryOrders (m + 1 + e)) Q (fun I => Q I) (d + 1) (nI k) rest (29 + k) (29 + (k + 1)) (nI i) J := by
        intro d
        induction d with
        | zero =>
          intro i b' J hi hF hV hB hr
          rw [wp_X5_tryOrders_80.eq_2]
          have c7 : 7 ≤ i := by omega
          have e7 : i = 7 := by omega
          simp (disch := omega) only [nIle, c7, Bool.true_eq_false, Bool.false_eq_true, false_implies, true_implies, not_true_eq_false, not_false_eq_true, and_true, true_and]
          rw [e7, TL_7] at hr
          have hr : b' = _ := hr
          rw [hr] at hB
          exact hq J hF hV hB
        | succ d ihd =>
          intro i b' J hi hF hV hB hr
          rw [wp_X5_tryOrders_80.eq_2]
          have c7 : ¬ 7 ≤ i := by omega
          have k7 : k < 7 := by omega
          rw [TL_s (by omega)] at hr
          simp (disch := omega) only [nIle, c7, Bool.true_eq_false, Bool.false_eq_true, false_implies, true_implies, not_true_eq_false, not_false_eq_true, and_true, true_and, hasB_r, wp_X5_tryOrders_139, nI_add]
          refine ⟨fun c => ?_, fun c => ?_⟩
          · rw [if_neg c, List.nil_append] at hr
            exact ihd (i + 1) b' J (by omega) hF hV hB hr
          · rw [if_pos c] at hr
            have hin : i ∈ BTS rest := BTS_mem.mpr ⟨by omega, c⟩
            obtain ⟨i7, iq⟩ := hmem i (List.mem_append.mpr (Or.inr hin))
            obtain ⟨u, hu, eu⟩ := inQ_t.mp iq
            have kn : ¬ csT f P (22 + i) = -nI 1 := by
              rw [sP _ (by omega) (by omega) (by omega) (by omega), ← eu]; exact hf.kn hu
            have jb : BK False J (29 + k) (csT f P) := hb.fr (fun a a1 a2 => funext fun s => hF a s (by omega) (by omega) (by omega) (by omega))
            refine c_tcL (by omega) hf jb sP (hV (k + 1) (by omega) (by omega)) (fun K kb ko => ?_)
            refine c_attend kb wP i7 kn (fun L lb lo => ?_)
            have wS := wP.serve i7 kn
            refine c_endTurn lb wS (by rw [serve_n (by rw [nP]; exact n4), nP]; exact h0) (fun M mb mo => ?_)
            have oM : OUT (29 + (k + 1)) J M := (ko.tr lo).tr mo
            have mb : BK False M (29 + (k + 1)) (csT f (P ++ [i])) := by rw [cs_snoc]; exact mb
            simp (disch := omega) only [nIvp, nIcl, k7, Bool.true_eq_false, Bool.false_eq_true, false_implies, true_implies, not_true_eq_false, not_false_eq_true, and_true, true_and, forall_eq]
            generalize hM' : su M 310 k (nI i) = M'
            have m1 : ∀ a, a ≠ 310 → M' a = M a := fun a ha => by rw [← hM', su_cell ha]
            have del := BTS_del (x := rest) i7
            have pr : ((P ++ [i]) ++ (BTS rest).erase i).Perm (P ++ BTS rest) := by
              rw [List.append_assoc]
              exact (List.perm_cons_erase hin).symm.append_left P
            have ndp : ((P ++ [i]) ++ (BTS rest).erase i).Nodup := pr.nodup_iff.mpr hnd
            refine ih (k + 1) (by omega) (P ++ [i]) _ b' M' _ e (by rw [List.length_append, hP, List.length_singleton]) (by rw [del, List.length_erase_of_mem hin]; omega) (by rw [del]; exact ndp) (fun p hp => by rw [del] at hp; exact hmem p (pr.mem_iff.mp hp)) (mb.fr (fun a a1 a2 => m1 a (by omega))) (fun j j1 j2 => (hV j (by omega) j2).fr (fun a a1 a2 => by rw [m1 a (by omega), oM a (by omega)])) ?_ ?_ (fun q hq2 => ?_) (hB.fr ⟨by rw [m1 _ (by omega), oM _ (by omega)], by rw [m1 _ (by omega), oM _ (by omega)]⟩) (fun N nF nV nB => ?_)
            · rw [m1 _ (by omega), oM _ (by omega), hF _ _ (by omega) (by omega) (by omega) (by omega)]; exact h4
            · rw [m1 _ (by omega), oM _ (by omega), hF _ _ (by omega) (by omega) (by omega) (by omega)]; exact h5
            · by_cases eq : q = k
              · subst eq
                rw [← hM', su_eq]
                have := getA P [] i
                rw [hP] at this
                rw [this]
              · rw [← hM', su_slot eq, oM _ (by omega), hF _ _ (by omega) (by omega) (by omega) (by omega), hpath q (by omega), List.getD_eq_getElem?_getD, List.getD_eq_getElem?_getD, List.getElem?_append_left (by omega)]
            · rw [del] at nB
              have fJN : FRT k J N := by
                intro a s z1 z2 z3 z4
                rw [nF a s (by omega) (by omega) z3 z4, ← hM', su2 (by omega), oM a (by omega)]
              refine ihd (i + 1) _ N (by omega) (hF.tr fJN) (fun j j1 j2 => ?_) nB hr
              by_cases ej : j = k + 1
              · subst ej
                refine ⟨csT f (P ++ [i]), mb.fr (fun a a1 a2 => funext fun s => ?_), fun q a1 a2 a3 a4 => cs_q n4 ⟨a2, a3, a4⟩ a1 _⟩
                rw [nF a s (by omega) (by omega) (by omega) (by omega), m1 a (by omega)]
              · exact nV j (by omega) j2
      exact ⟨8, loop 7 0 b I (by omega) (FRT.rf k I) hv hO (by rw [TL_0]; exact (prm_fold m (BTS rest) P b).symm)⟩
    · refine hq I (FRT.rf k I) hv ?_
      have key : ((prm (m + 1) (BTS rest)).map (fun r => P ++ r)).foldl (bO f) b = b := by
        refine fold_no (fun l hl2 => ?_)
        obtain ⟨r, hr, rfl⟩ := List.mem_map.mp hl2
        have hne := LNE.app (f := f) (m := m + 1) hnd hmem (by omega) hl hr
        obtain ⟨r1, -, -⟩ := prm_mem (m + 1) (BTS rest) r hr hl (nd_lt (BTS_pw rest))
        obtain ⟨a, a', h1, h2, h3, h4⟩ := evP_pre hf hne
        have ea : a = pd := by
          rw [epd] at h3
          have := (Int32.add_right_inj _).mp h3
          rw [nIeq (by omega) (by omega)] at this
          omega
        subst ea
        rcases hO.1 with z | ⟨n, hn, z⟩
        · rw [z] at c
          exact absurd (by rw [i32_le]; intro q; exact absurd (neg_lt (x := -nI 1) (by decide) (n := a + (m + 1)) (by omega)) (by rw [← i32_le]; exact (by have := q; rw [Int32.lt_iff_toInt_lt] at this; rw [Int32.le_iff_toInt_le]; omega))) c
        · rw [z, nIle (by omega) (by omega)] at c
          unfold bO
          rw [if_neg]
          intro u
          rw [z, h4, nIlt (by omega) (by omega), nIeq (by omega) (by omega)] at u
          omega
      rw [key]; exact hO
end TRYO

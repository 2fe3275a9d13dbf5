/-! ===== as, ask ===== -/
def kof (k : Nat) (w : Int32) : Bool := decide (w = 0) || decide (w = nI k) || (decide (w = nI 1) && (decide (k = 2) || decide (k = 3))) || (decide (w = nI 4) && decide (k = 5))
section ASKS
variable {s : Prop} {I : II} {f : TW}
theorem stA_0 : stA 0 = (-nI 1000000) := by decide
theorem stA_1 : stA 1 = nI 0 := by decide
theorem stA_2 : stA 2 = nI 1 := by decide
theorem stA_3 : stA 3 = nI 1 := by decide
theorem stA_4 : stA 4 = nI 0 := by decide
theorem stA_5 : stA 5 = nI 4 := by decide
theorem ck_step {Q : Int32 → II → Prop} {k27 k41 : II → Prop} {N a x : Nat} {w : Int32} (ha : a < 6) (hx : x < 6) (h1 : nI a = w → k27 I) (h2 : ¬ nI a = w → wp_X7_isKindOf_4 Q k27 k41 N w (stA a) (nI (x + 1)) I) : wp_X7_isKindOf_4 Q k27 k41 (N + 1) w (nI a) (nI x) I := by
  rw [wp_X7_isKindOf_4.eq_2]
  have c1 : ¬ 6 ≤ x := by omega
  have c2 : ¬ 6 ≤ a := by omega
  simp (disch := omega) only [nIle, c1, c2, nIlt0, Bool.true_eq_false, Bool.false_eq_true, false_implies, true_implies, not_true_eq_false, not_false_eq_true, and_true, true_and, nIvp, nIcl, ha, nI_add]
  exact ⟨h2, h1⟩
theorem ck_end {Q : Int32 → II → Prop} {k27 k41 : II → Prop} {N x : Nat} {w : Int32} (hx : x < 6) (h : k41 I) : wp_X7_isKindOf_4 Q k27 k41 (N + 1) w (-nI 1000000) (nI x) I := by
  rw [wp_X7_isKindOf_4.eq_2]
  have c1 : ¬ 6 ≤ x := by omega
  have c2 : ((-nI 1000000) : Int32) < 0 := by decide
  simp (disch := omega) only [nIle, c1, c2, Bool.true_eq_false, Bool.false_eq_true, false_implies, true_implies, not_true_eq_false, not_false_eq_true, and_true, true_and]
  exact h
theorem c_isKindOf {Q : Int32 → II → Prop} {k : Nat} {w : Int32} (h1 : 1 ≤ k) (h5 : k ≤ 5) (hq : Q (i1 (kof k w)) I) : wp_X7_isKindOf (nI k) w I Q := by
  unfold wp_X7_isKindOf
  unfold kof at hq
  have e : k = 1 ∨ k = 2 ∨ k = 3 ∨ k = 4 ∨ k = 5 := by omega
  have n0 : (nI 0 : Int32) = 0 := rfl
  refine ⟨4, ?_⟩
  rcases e with rfl | rfl | rfl | rfl | rfl
  · refine ck_step (by omega) (by omega) (fun e => ?_) (fun e => ?_)
    · subst e; exact hq
    · rw [stA_1]
      refine ck_step (by omega) (by omega) (fun e2 => ?_) (fun e2 => ?_)
      · subst e2; exact hq
      · rw [stA_0]
        refine ck_end (by omega) ?_
        have a1 : ¬ w = 0 := fun z => e2 (by rw [z]; rfl)
        have a2 : ¬ w = nI 1 := fun z => e z.symm
        simp only [a1, a2, decide_false, Bool.or_false, Bool.false_and, Bool.false_or, Bool.and_false, show ¬ (1 : Nat) = 5 by omega] at hq
        exact hq
  · refine ck_step (by omega) (by omega) (fun e => ?_) (fun e => ?_)
    · subst e; exact hq
    · rw [stA_2]
      refine ck_step (by omega) (by omega) (fun e2 => ?_) (fun e2 => ?_)
      · subst e2; exact hq
      · rw [stA_1]
        refine ck_step (by omega) (by omega) (fun e3 => ?_) (fun e3 => ?_)
        · subst e3; exact hq
        · rw [stA_0]
          refine ck_end (by omega) ?_
          have a1 : ¬ w = 0 := fun z => e3 (by rw [z]; rfl)
          have a2 : ¬ w = nI 1 := fun z => e2 z.symm
          have a3 : ¬ w = nI 2 := fun z => e z.symm
          simp only [a1, a2, a3, decide_false, Bool.or_false, Bool.false_and, Bool.false_or, Bool.and_false, show ¬ (2 : Nat) = 5 by omega] at hq
          exact hq
  · refine ck_step (by omega) (by omega) (fun e => ?_) (fun e => ?_)
    · subst e; exact hq
    · rw [stA_3]
      refine ck_step (by omega) (by omega) (fun e2 => ?_) (fun e2 => ?_)
      · subst e2; exact hq
      · rw [stA_1]
        refine ck_step (by omega) (by omega) (fun e3 => ?_) (fun e3 => ?_)
        · subst e3; exact hq
        · rw [stA_0]
          refine ck_end (by omega) ?_
          have a1 : ¬ w = 0 := fun z => e3 (by rw [z]; rfl)
          have a2 : ¬ w = nI 1 := fun z => e2 z.symm
          have a3 : ¬ w = nI 3 := fun z => e z.symm
          simp only [a1, a2, a3, decide_false, Bool.or_false, Bool.false_and, Bool.false_or, Bool.and_false, show ¬ (3 : Nat) = 5 by omega] at hq
          exact hq
  · refine ck_step (by omega) (by omega) (fun e => ?_) (fun e => ?_)
    · subst e; exact hq
    · rw [stA_4]
      refine ck_step (by omega) (by omega) (fun e2 => ?_) (fun e2 => ?_)
      · subst e2; exact hq
      · rw [stA_0]
        refine ck_end (by omega) ?_
        have a1 : ¬ w = 0 := fun z => e2 (by rw [z]; rfl)
        have a2 : ¬ w = nI 4 := fun z => e z.symm
        simp only [a1, a2, decide_false, Bool.or_false, Bool.false_and, Bool.false_or, Bool.and_false, show ¬ (4 : Nat) = 2 by omega, show ¬ (4 : Nat) = 3 by omega] at hq
        exact hq
  · refine ck_step (by omega) (by omega) (fun e => ?_) (fun e => ?_)
    · subst e; exact hq
    · rw [stA_5]
      refine ck_step (by omega) (by omega) (fun e2 => ?_) (fun e2 => ?_)
      · subst e2; exact hq
      · rw [stA_4]
        refine ck_step (by omega) (by omega) (fun e3 => ?_) (fun e3 => ?_)
        · subst e3; exact hq
        · rw [stA_0]
          refine ck_end (by omega) ?_
          have a1 : ¬ w = 0 := fun z => e3 (by rw [z]; rfl)
          have a2 : ¬ w = nI 4 := fun z => e2 z.symm
          have a3 : ¬ w = nI 5 := fun z => e z.symm
          simp only [a1, a2, a3, decide_false, Bool.or_false, Bool.false_and, Bool.false_or, Bool.and_false, show ¬ (5 : Nat) = 2 by omega, show ¬ (5 : Nat) = 3 by omega] at hq
          exact hq
theorem m_isOf {Q : Int32 → II → Prop} {k t : Nat} {w : Int32} (ht : t < 4) (h5 : k ≤ 5) (hI : I 316 (29 + t) = nI k) (hq : Q (i1 (kof k w)) I) : wp_X8_isOf (nI t) w I Q := by
  unfold wp_X8_isOf wp_X8_isOf_34 wp_X8_isOf_44
  have g : 29 + t < 1372 := by omega
  simp (disch := omega) only [nI_add, nIvp, nIcl, g, hI, Bool.true_eq_false, Bool.false_eq_true, false_implies, true_implies, not_true_eq_false, not_false_eq_true, and_true, true_and, nIeq]
  unfold kof at hq
  by_cases w0 : w = 0
  · rw [decide_eq_true w0] at hq
    simp only [w0, Bool.true_eq_false, Bool.false_eq_true, false_implies, true_implies, not_true_eq_false, not_false_eq_true, and_true, true_and]
    simp only [w0, Bool.true_or] at hq
    exact hq
  · by_cases wk : w = nI k
    · rw [decide_eq_true wk] at hq
      simp only [w0, wk, Bool.true_eq_false, Bool.false_eq_true, false_implies, true_implies, not_true_eq_false, not_false_eq_true, and_true, true_and, Bool.or_true, Bool.true_or] at hq ⊢
      have : ¬ nI k = 0 := by rw [← wk]; exact w0
      simp only [this, Bool.true_eq_false, Bool.false_eq_true, false_implies, true_implies, not_true_eq_false, not_false_eq_true, and_true, true_and]
      exact hq
    · simp only [w0, wk, Bool.true_eq_false, Bool.false_eq_true, false_implies, true_implies, not_true_eq_false, not_false_eq_true, and_true, true_and, decide_false, Bool.false_or] at hq ⊢
      by_cases w1 : w = nI 1
      · have n4 : ¬ w = nI 4 := by rw [w1]; decide
        simp only [w1, decide_true, Bool.true_and, Bool.true_eq_false, Bool.false_eq_true, false_implies, true_implies, not_true_eq_false, not_false_eq_true, and_true, true_and] at hq ⊢
        have n14 : ¬ (nI 1 : Int32) = nI 4 := by decide
        simp only [n14, decide_false, Bool.false_and, Bool.or_false, Bool.true_eq_false, Bool.false_eq_true, false_implies, true_implies, not_true_eq_false, not_false_eq_true, and_true, true_and] at hq ⊢
        by_cases k2 : k = 2
        · rw [decide_eq_true k2] at hq; simp only [k2, Bool.true_eq_false, Bool.false_eq_true, false_implies, true_implies, not_true_eq_false, not_false_eq_true, and_true, true_and]; exact hq
        · by_cases k3 : k = 3
          · rw [decide_eq_true k3, Bool.or_true] at hq; simp only [k2, k3, Bool.true_eq_false, Bool.false_eq_true, false_implies, true_implies, not_true_eq_false, not_false_eq_true, and_true, true_and]; exact ⟨fun z => absurd z (by omega), fun _ => hq⟩
          · rw [decide_eq_false k3, decide_eq_false k2] at hq
            simp only [k2, k3, Bool.true_eq_false, Bool.false_eq_true, false_implies, true_implies, not_true_eq_false, not_false_eq_true, and_true, true_and]; exact hq
      · simp only [w1, decide_false, Bool.false_and, Bool.false_or, Bool.true_eq_false, Bool.false_eq_true, false_implies, true_implies, not_true_eq_false, not_false_eq_true, and_true, true_and] at hq ⊢
        by_cases w4 : w = nI 4
        · rw [decide_eq_true w4, Bool.true_and] at hq
          simp only [w4, Bool.true_eq_false, Bool.false_eq_true, false_implies, true_implies, not_true_eq_false, not_false_eq_true, and_true, true_and]
          by_cases k5 : k = 5
          · rw [decide_eq_true k5] at hq; simp only [k5, Bool.true_eq_false, Bool.false_eq_true, false_implies, true_implies, not_true_eq_false, not_false_eq_true, and_true, true_and]; exact hq
          · rw [decide_eq_false k5] at hq; simp only [k5, Bool.true_eq_false, Bool.false_eq_true, false_implies, true_implies, not_true_eq_false, not_false_eq_true, and_true, true_and]; exact hq
        · rw [decide_eq_false w4, Bool.false_and] at hq
          simp only [w4, Bool.true_eq_false, Bool.false_eq_true, false_implies, true_implies, not_true_eq_false, not_false_eq_true, and_true, true_and]; exact hq
end ASKS
theorem s_as (x w : Int32) : SIM (wp_X7_as x w) (wp_X8_as x w) := by
  refine SIM.qs (fun I f v hf hz c m => ?_)
  have n4 := hf.n.2
  have iw : ((¬ w < 0) ∧ w < nI 6) ↔ inB 0 5 w = true := by
    rcases i32_cases w with hx | ⟨n, hn, rfl⟩
    · rw [inB_neg (by omega) hx]; simp [hx]
    · rw [inB_nI (by omega) (by omega) hn]
      simp (disch := omega) only [nIlt0, nIlt]
      simp
      omega
  unfold wp_X7_as wp_X8_as
  by_cases ha : hT f x = true ∧ inB 0 5 w = true
  · obtain ⟨e1, e2⟩ := ha
    obtain ⟨t, ht, rfl⟩ := hT_of hf e1
    have e2' := iw.mpr e2
    have t4 : t < 4 := by omega
    obtain ⟨k, h1, h5, ek⟩ := (hf.te ht).1
    have ck : I (8 * 0 + 1) t = nI k := by rw [(c.2.1 t ht).1, ek]
    cases hb : kof k w with
    | true =>
      refine ⟨nI t, some (nI 0), fun Q hQ => ?_, fun J Q hJ mj hQ => ?_⟩
      · rw [c_hasTeller c hf, e1, i1_0]
        simp (disch := omega) only [Bool.true_eq_false, Bool.false_eq_true, false_implies, true_implies, not_true_eq_false, not_false_eq_true, and_true, true_and, e2'.1, e2'.2, nIvp, nIcl, t4, ck]
        refine c_isKindOf h1 h5 ?_
        rw [hb, i1_0]
        simp only [Bool.true_eq_false, Bool.false_eq_true, false_implies, true_implies, not_true_eq_false, not_false_eq_true, and_true, true_and]
        rw [k_fine]; exact hQ I (FRA.rf I)
      · rw [m_isTeller mj.1 hf, e1, i1_0, m_inE _ _ _ _ _ (by omega) (by omega), e2, i1_0]
        simp only [Bool.true_eq_false, Bool.false_eq_true, false_implies, true_implies, not_true_eq_false, not_false_eq_true, and_true, true_and]
        refine m_isOf t4 h5 (by rw [mj.1 _ (by omega), ek]) ?_
        rw [hb, i1_0]
        simp only [Bool.true_eq_false, Bool.false_eq_true, false_implies, true_implies, not_true_eq_false, not_false_eq_true, and_true, true_and]
        rw [m_well]; exact hQ J (FRA.rf J)
    | false =>
      refine ⟨-nI 1000010 - nI 3, some (nI 3), fun Q hQ => ?_, fun J Q hJ mj hQ => ?_⟩
      · rw [c_hasTeller c hf, e1, i1_0]
        simp (disch := omega) only [Bool.true_eq_false, Bool.false_eq_true, false_implies, true_implies, not_true_eq_false, not_false_eq_true, and_true, true_and, e2'.1, e2'.2, nIvp, nIcl, t4, ck]
        refine c_isKindOf h1 h5 ?_
        rw [hb, i1_0]
        simp only [Bool.true_eq_false, Bool.false_eq_true, false_implies, true_implies, not_true_eq_false, not_false_eq_true, and_true, true_and]
        rw [k_found]; exact hQ I (FRA.rf I)
      · rw [m_isTeller mj.1 hf, e1, i1_0, m_inE _ _ _ _ _ (by omega) (by omega), e2, i1_0]
        simp only [Bool.true_eq_false, Bool.false_eq_true, false_implies, true_implies, not_true_eq_false, not_false_eq_true, and_true, true_and]
        refine m_isOf t4 h5 (by rw [mj.1 _ (by omega), ek]) ?_
        rw [hb, i1_0]
        simp only [Bool.true_eq_false, Bool.false_eq_true, false_implies, true_implies, not_true_eq_false, not_false_eq_true, and_true, true_and]
        rw [m_find]; exact hQ J (FRA.rf J)
  · refine ⟨-nI 1000001, none, fun Q hQ => ?_, fun J Q hJ mj hQ => ?_⟩
    · have q0 := hQ I (FRA.rf I)
      rw [c_hasTeller c hf]
      exact gd (fun _ => q0) (fun e1 => ⟨fun _ => q0, fun e2 => ⟨fun e3 => absurd ⟨e1, iw.mp ⟨e2, e3⟩⟩ ha, fun _ => q0⟩⟩)
    · have q0 := hQ J (FRA.rf J)
      rw [m_isTeller mj.1 hf]
      refine gd (fun _ => q0) (fun e1 => ?_)
      rw [m_inE _ _ _ _ _ (by omega) (by omega)]
      exact gd' (fun _ => q0) (fun e2 => absurd ⟨e1, e2⟩ ha)

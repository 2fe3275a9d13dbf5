/-! ===== pure: more calls that change nothing ===== -/
def nrC (P : Nat → Bool) : Nat → Int32
  | 0 => nI 0
  | r + 1 => nrC P r + i1 (P r)
theorem c_isMissing {I : II} {n : Nat} (hn : n < 8) (Q : Int32 → II → Prop) : wp_X4_isMissing (nI n) I Q = Q (i1 (decide (I 298 n = (-nI 1000000)))) I := by
  unfold wp_X4_isMissing wp_X4_isMissing_18
  rw [k_isRow, i1_0, inB_nI (by omega) (by omega) (by omega), decide_eq_true (by omega)]
  simp (disch := omega) only [Bool.true_eq_false, Bool.false_eq_true, false_implies, true_implies, not_true_eq_false, not_false_eq_true, and_true, true_and, nIvp, nIcl, hn]
  by_cases e : I 298 n = (-nI 1000000) <;> simp [e, i1]
theorem c_amount {I : II} {Q : Int32 → II → Prop} (h : Q (nrC (fun r => decide (¬ I 298 r = (-nI 1000000))) 8) I) : wp_X4_amount I Q := by
  unfold wp_X4_amount
  have key : ∀ (d t : Nat), t + d = 8 → ∃ N, wp_X4_amount_4 Q (fun x1 I => Q x1 I) N (nrC (fun r => decide (¬ I 298 r = (-nI 1000000))) t) (nI t) I := by
    intro d
    induction d with
    | zero =>
      intro t ht
      refine ⟨1, ?_⟩
      rw [wp_X4_amount_4.eq_2]
      have e : t = 8 := by omega
      subst e
      simp (disch := omega) only [nIle, Nat.le_refl, Bool.true_eq_false, Bool.false_eq_true, false_implies, true_implies, not_true_eq_false, not_false_eq_true, and_true, true_and]
      exact h
    | succ d ih =>
      intro t ht
      obtain ⟨N, hN⟩ := ih (t + 1) (by omega)
      refine ⟨N + 1, ?_⟩
      rw [wp_X4_amount_4.eq_2]
      have c : ¬ 8 ≤ t := by omega
      simp (disch := omega) only [wp_X4_amount_21, nIle, c, Bool.true_eq_false, Bool.false_eq_true, false_implies, true_implies, not_true_eq_false, not_false_eq_true, and_true, true_and, c_isMissing, i1_0, nI_add]
      rw [nrC] at hN
      by_cases e : I 298 t = (-nI 1000000)
      · simp only [e, not_true_eq_false, decide_false, i1] at hN
        rw [show ∀ z : Int32, z + (if false = true then nI 1 else nI 0) = z from fun z => Int32.add_zero z] at hN
        simp only [e, decide_true, Bool.true_eq_false, Bool.false_eq_true, false_implies, true_implies, not_true_eq_false, not_false_eq_true, and_true, true_and]; exact hN
      · simp only [e, not_false_eq_true, decide_true, i1, if_true] at hN
        simp only [e, decide_false, Bool.true_eq_false, Bool.false_eq_true, false_implies, true_implies, not_true_eq_false, not_false_eq_true, and_true, true_and]; exact hN
  exact key 8 0 (by omega)
theorem m_amount {I : II} {Q : Int32 → II → Prop} (h : Q (nrC (fun r => decide (0 ≤ I 319 r)) 8) I) : ∃ N, wp_X8_count_50 Q (fun x2 I => Q x2 I) N (nI 0) (nI 0) I := by
  have key : ∀ (d t : Nat), t + d = 8 → ∃ N, wp_X8_count_50 Q (fun x1 I => Q x1 I) N (nrC (fun r => decide (0 ≤ I 319 r)) t) (nI t) I := by
    intro d
    induction d with
    | zero =>
      intro t ht
      refine ⟨1, ?_⟩
      rw [wp_X8_count_50.eq_2]
      have e : t = 8 := by omega
      subst e
      simp (disch := omega) only [nIle, Nat.le_refl, Bool.true_eq_false, Bool.false_eq_true, false_implies, true_implies, not_true_eq_false, not_false_eq_true, and_true, true_and]
      exact h
    | succ d ih =>
      intro t ht
      obtain ⟨N, hN⟩ := ih (t + 1) (by omega)
      refine ⟨N + 1, ?_⟩
      rw [wp_X8_count_50.eq_2]
      have c : ¬ 8 ≤ t := by omega
      have c2 : t < 8 := by omega
      simp (disch := omega) only [wp_X8_count_71, nIle, c, c2, Bool.true_eq_false, Bool.false_eq_true, false_implies, true_implies, not_true_eq_false, not_false_eq_true, and_true, true_and, nIvp, nIcl, nI_add]
      rw [nrC] at hN
      by_cases e : 0 ≤ I 319 t
      · simp only [e, decide_true, i1, if_true] at hN
        simp only [e, Bool.true_eq_false, Bool.false_eq_true, false_implies, true_implies, not_true_eq_false, not_false_eq_true, and_true, true_and]; exact hN
      · simp only [e, decide_false, i1] at hN
        simp only [e, Bool.true_eq_false, Bool.false_eq_true, false_implies, true_implies, not_true_eq_false, not_false_eq_true, and_true, true_and]; exact hN
  exact key 8 0 (by omega)
theorem nrC_congr {P R : Nat → Bool} (h : ∀ r, r < 8 → P r = R r) : ∀ n, n ≤ 8 → nrC P n = nrC R n := by
  intro n
  induction n with
  | zero => intro _; rfl
  | succ n ih => intro hn; rw [nrC, nrC, ih (by omega), h n (by omega)]
theorem ROW.miss {I : II} (a : ROW I) {r : Nat} (hr : r < 8) : (I 298 r = (-nI 1000000)) = (I 319 r = -nI 1) ∧ (0 ≤ I 319 r) = ¬ (I 298 r = (-nI 1000000)) := by
  rcases a r hr with ⟨h1, h2, h3⟩ | ⟨z, ln, hz, hl, h1, h2, h3, h4, h5⟩
  · rw [h1, h3]
    exact ⟨by simp, by have : ¬ (0 : Int32) ≤ -nI 1 := by decide
                       simp [this]⟩
  · rw [h1, h4]
    have e1 : ¬ nI ln = (-nI 1000000) := by rw [nIneg (by omega) (by omega) (by omega)]; exact not_false
    have e2 : ¬ nI z = -nI 1 := by rw [nIneg (by omega) (by omega) (by omega)]; exact not_false
    rw [nI0le (by omega)]
    simp [e1, e2]
theorem s_count (x : Int32) : SIM (wp_X7_count x) (wp_X8_count x) := by
  intro I v
  obtain ⟨f, sz, lt, h, p, c, m, o, i, r, ⟨z, z1, z2, z3, z4⟩, ms, k⟩ := id v
  have e0 := m.1 0 (by omega)
  have e7 := m.1 7 (by omega)
  have e3 := m.1 3 (by omega)
  have e4 := m.1 4 (by omega)
  have e5 := m.1 5 (by omega)
  obtain ⟨b0, b1, b2, b3, b4, b5, b6, b7⟩ := c.1.1
  unfold wp_X7_count
  refine ⟨fun e => ?_, fun e => ?_, fun e => ?_, fun e => ?_, fun e => ?_, fun e => ?_, fun e => ?_, fun e => ?_, fun d0 d1 d2 d3 d4 d5 d6 d7 => ?_⟩
  · subst e
    refine c_amount ?_
    unfold wp_X8_count
    simp (disch := omega) [nIeq]
    refine m_amount ⟨?_, v⟩
    refine nrC_congr (fun r' hr => ?_) 8 (by omega)
    have q := (r.miss hr).2
    simp [q]
  all_goals (try subst e)
  · unfold wp_X8_count; simp (disch := omega) [nIeq, nIvp, nIcl]; exact ⟨by rw [e0]; exact b2, v⟩
  · unfold wp_X8_count; simp (disch := omega) [nIeq, nIvp, nIcl]; exact ⟨by rw [e7]; exact b7, v⟩
  · unfold wp_X8_count; simp (disch := omega) [nIeq, nIvp, nIcl]; exact ⟨by rw [e3]; exact b4, v⟩
  · unfold wp_X8_count; simp (disch := omega) [nIeq, nIvp, nIcl]; exact ⟨by rw [e4]; exact b5, v⟩
  · unfold wp_X8_count; simp (disch := omega) [nIeq, nIvp, nIcl]; exact ⟨by rw [e5]; exact b6, v⟩
  · unfold wp_X8_count; simp (disch := omega) [nIeq, nIvp, nIcl]; exact ⟨by rw [c.2.1, m.2.1], v⟩
  · unfold wp_X8_count; simp (disch := omega) [nIeq, nIvp, nIcl]; exact ⟨by rw [z2, z3], v⟩
  · unfold wp_X8_count; simp only [d0, d1, d2, d3, d4, d5, d6, d7, Bool.true_eq_false, Bool.false_eq_true, false_implies, true_implies, not_true_eq_false, not_false_eq_true, and_true, true_and]; exact v
theorem su2 {I : II} {a k : Nat} {v : Int32} {b l : Nat} (h : ¬ (b = a ∧ l = k)) : su I a k v b l = I b l := by rw [su_at, if_neg h]
theorem s_feed (x : Int32) : SIM (wp_X7_feed x) (wp_X8_feed x) := by
  intro I v
  obtain ⟨f, sz, lt, h, p, c, m, o, i, r, ⟨z, z1, z2, z3, z4⟩, ms, k⟩ := id v
  have mdl : ∀ (w : Int32) (J : II), J 315 = I 315 → J 321 = I 321 → ((inB 0 255 x = false → w = -nI 1000001 ∧ INV J) ∧ (inB 0 255 x = true → ((z = 120 → w = -nI 1000003 ∧ INV J) ∧ (¬ z = 120 → w = nI (z + 1) ∧ INV (su (su J 321 z x) 315 8 (nI (z + 1))))))) → wp_X8_feed x J (fun r' K => w = r' ∧ INV K) := by
    intro w J e1 e2 hh
    unfold wp_X8_feed
    rw [m_inE _ _ _ _ _ (by omega) (by omega), i1_0, e1, z3, nIeq (by omega) (by omega)]
    cases hb : inB 0 255 x with
    | false => simp only [Bool.true_eq_false, Bool.false_eq_true, false_implies, true_implies, not_true_eq_false, not_false_eq_true, and_true, true_and]; exact hh.1 hb
    | true =>
      simp only [Bool.true_eq_false, Bool.false_eq_true, false_implies, true_implies, not_true_eq_false, not_false_eq_true, and_true, true_and]
      have hh := hh.2 hb
      refine ⟨fun q => ?_, fun q => hh.1 q⟩
      have g : z < 120 := by omega
      have hh := hh.2 q
      have e3 : su J 321 z x 315 8 = nI z := by rw [su_cell (by omega), e1, z3]
      simp (disch := omega) only [nIvp, nIcl, g, Bool.true_eq_false, Bool.false_eq_true, false_implies, true_implies, not_true_eq_false, not_false_eq_true, and_true, true_and, forall_eq, e3, nI_add, su_eq]
      exact hh
  unfold wp_X7_feed wp_X6_add
  rw [z2]
  rcases i32_cases x with hx | ⟨n, hn, rfl⟩
  · simp only [hx, Bool.true_eq_false, Bool.false_eq_true, false_implies, true_implies, not_true_eq_false, not_false_eq_true, and_true, true_and]
    exact mdl _ I rfl rfl ⟨fun _ => ⟨rfl, v⟩, fun q => absurd q (by rw [inB_neg (by omega) hx]; decide)⟩
  · have hb : inB 0 255 (nI n) = decide (n ≤ 255) := by rw [inB_nI (by omega) (by omega) hn]; simp
    simp (disch := omega) only [nIlt0, Bool.true_eq_false, Bool.false_eq_true, false_implies, true_implies, not_true_eq_false, not_false_eq_true, and_true, true_and, nIle, nIlt]
    by_cases c1 : n ≤ 255
    · simp only [c1, Bool.true_eq_false, Bool.false_eq_true, false_implies, true_implies, not_true_eq_false, not_false_eq_true, and_true, true_and]
      by_cases c2 : z < 120
      · have n1 : ¬ (nI 1 : Int32) = 0 := by decide
        have e3 : su I 302 z (nI n) 301 2 = nI z := by rw [su_cell (by omega), z2]
        simp (disch := omega) only [c2, Bool.true_eq_false, Bool.false_eq_true, false_implies, true_implies, not_true_eq_false, not_false_eq_true, and_true, true_and, nIvp, nIcl, forall_eq, n1, e3, nI_add, su_eq]
        refine mdl _ _ (by rw [su_cell (by omega), su_cell (by omega)]) (by rw [su_cell (by omega), su_cell (by omega)]) ⟨fun q => absurd q (by rw [hb]; simp [c1]), fun _ => ⟨fun q => absurd q (by omega), fun _ => ⟨rfl, ?_⟩⟩⟩
        have fr : ∀ a k, ¬ (a = 302 ∨ a = 321 ∨ (a = 301 ∧ k = 2) ∨ (a = 315 ∧ k = 8)) → su (su (su (su I 302 z (nI n)) 301 2 (nI (z + 1))) 321 z (nI n)) 315 8 (nI (z + 1)) a k = I a k := fun a k q => by
          rw [su2 (by omega), su_cell (by omega), su2 (by omega), su_cell (by omega)]
        have frc : ∀ a, ¬ (a = 302 ∨ a = 321 ∨ a = 301 ∨ a = 315) → su (su (su (su I 302 z (nI n)) 301 2 (nI (z + 1))) 321 z (nI n)) 315 8 (nI (z + 1)) a = I a := fun a q => funext fun k => fr a k (by omega)
        refine ⟨f, sz, lt, h, p, c.fr (fun a q => frc a (by omega)), m.fr p.2.2.1 (fun k q => fr _ _ (by omega)) ⟨fr _ _ (by omega), fr _ _ (by omega)⟩, ⟨o.1.fr ⟨frc _ (by omega), frc _ (by omega)⟩, o.2.fr ⟨frc _ (by omega), frc _ (by omega)⟩⟩, i.fr (fun a q => frc a (by omega)) (fun k q1 q2 => fr _ _ (by omega)) (fun z => by rw [fr _ _ (by omega)]; exact z), r.fr (fun a q => frc a (by omega)), ⟨z + 1, by omega, ?_, ?_, fun i hi => ?_⟩, ms.fr ⟨fr _ _ (by omega), fr _ _ (by omega), fr _ _ (by omega), fr _ _ (by omega)⟩, k.fr ⟨frc _ (by omega), frc _ (by omega)⟩ ⟨fr _ _ (by omega), fr _ _ (by omega)⟩⟩
        · rw [su2 (by omega), su_cell (by omega), su_eq]
        · rw [su_eq]
        · rw [su_cell (a' := 302) (by omega), su_cell (a' := 302) (by omega), su_cell (a' := 302) (by omega), su_cell (a' := 321) (by omega)]
          by_cases e : i = z
          · subst e; rw [su_eq, su_eq]
          · rw [su_slot e, su_slot e, su_cell (by omega), su_cell (by omega)]; exact z4 i (by omega)
      · have n0 : (nI 0 : Int32) = 0 := rfl
        simp only [c2, Bool.true_eq_false, Bool.false_eq_true, false_implies, true_implies, not_true_eq_false, not_false_eq_true, and_true, true_and, n0]
        exact mdl _ I rfl rfl ⟨fun q => absurd q (by rw [hb]; simp [c1]), fun _ => ⟨fun _ => ⟨rfl, v⟩, fun q => absurd (by omega) q⟩⟩
    · simp only [c1, Bool.true_eq_false, Bool.false_eq_true, false_implies, true_implies, not_true_eq_false, not_false_eq_true, and_true, true_and]
      exact mdl _ I rfl rfl ⟨fun _ => ⟨rfl, v⟩, fun q => absurd q (by rw [hb]; simp [c1])⟩

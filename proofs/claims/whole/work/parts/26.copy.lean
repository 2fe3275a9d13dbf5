/-! ===== pure: copies ===== -/
def CP (j o : Nat) (I J : II) : Prop := (∀ k, k < 10 → J (8 * j) k = I (8 * o) k) ∧ (∀ i t, 1 ≤ i → i ≤ 5 → t < 4 → J (8 * j + i) t = I (8 * o + i) t) ∧ (∀ i p, 6 ≤ i → i ≤ 7 → p < 7 → J (8 * j + i) p = I (8 * o + i) p) ∧ OUT j I J
section COPY
variable {s : Prop} {I : II} {j o : Nat} {f : TW}
theorem CP.bk {J : II} (h : CP j o I J) (hb : BK s I o f) (h4 : tn f ≤ 4) (h7 : tw f ≤ 7) : BK s J j f := by
  obtain ⟨c1, c2, c3, -⟩ := h
  obtain ⟨hx, ht, hq, hk, hd⟩ := hb
  refine ⟨?_, fun t h => ?_, fun k h => ?_, fun p h => ?_, fun p h g => ?_⟩
  · rw [c1 0 (by omega), c1 1 (by omega), c1 2 (by omega), c1 3 (by omega), c1 4 (by omega), c1 5 (by omega), c1 6 (by omega), c1 7 (by omega)]; exact hx
  · rw [c2 1 t (by omega) (by omega) (by omega), c2 2 t (by omega) (by omega) (by omega), c2 3 t (by omega) (by omega) (by omega), c2 4 t (by omega) (by omega) (by omega), c2 5 t (by omega) (by omega) (by omega)]
    exact ht t h
  · rw [c3 7 k (by omega) (by omega) (by omega)]; exact hq k h
  · rw [c1 9 (by omega)]; exact hk p h
  · rw [c1 8 (by omega), c3 6 p (by omega) (by omega) h]; exact hd p h g
theorem c_tc_loop {Q k : II → Prop} {I0 : II} (hjo : j ≠ o) (hk : ∀ J, (∀ a, a ≠ 8 * j + 4 → J a = I0 a) → (∀ t, t < 4 → J (8 * j + 4) t = I0 (8 * o + 4) t) → k J) : ∀ (d t : Nat) (I : II), t + d = 4 → (∀ a, a ≠ 8 * j + 4 → I a = I0 a) → (∀ u, u < t → I (8 * j + 4) u = I0 (8 * o + 4) u) → ∃ N, wp_X1_takeCourse_26 j o Q k N (nI t) I := by
  intro d
  induction d with
  | zero =>
    intro t I ht h1 h2
    refine ⟨1, ?_⟩
    rw [wp_X1_takeCourse_26.eq_2]
    have e : t = 4 := by omega
    subst e
    simp (disch := omega) only [nIle, Nat.le_refl, true_implies, not_true_eq_false, false_implies, and_true]
    exact hk I h1 h2
  | succ d ih =>
    intro t I ht h1 h2
    have c : ¬ 4 ≤ t := by omega
    have ht4 : t < 4 := by omega
    obtain ⟨N, hN⟩ := ih (t + 1) (su I (8 * j + 4) t (I (8 * o + 4) t)) (by omega) (fun a ha => by rw [su_cell ha]; exact h1 a ha) (fun u hu => by
      by_cases e : u = t
      · subst e; rw [su_eq, h1 _ (by omega)]
      · rw [su_slot e]; exact h2 u (by omega))
    refine ⟨N + 1, ?_⟩
    rw [wp_X1_takeCourse_26.eq_2]
    simp (disch := omega) only [nIle, c, false_implies, true_and, not_false_eq_true, true_implies, nIvp, nIcl, ht4, forall_eq, nI_add]
    exact hN
theorem c_takeCourse {Q : II → Prop} (hjo : j ≠ o) (hq : ∀ J, (∀ a, a ≠ 8 * j → a ≠ 8 * j + 4 → J a = I a) → (∀ k, J (8 * j) k = if k = 4 ∨ k = 5 ∨ k = 6 then I (8 * o) k else I (8 * j) k) → (∀ t, t < 4 → J (8 * j + 4) t = I (8 * o + 4) t) → Q J) : wp_X1_takeCourse j o I Q := by
  unfold wp_X1_takeCourse
  simp only [forall_eq]
  refine c_tc_loop (k := fun I => Q I) hjo (fun J h1 h2 => hq J (fun a a1 a2 => ?_) (fun k => ?_) (fun t ht => ?_)) 4 0 _ (by omega) (fun _ _ => rfl) (fun _ h => absurd h (by omega))
  · rw [h1 a a2, su_cell a1, su_cell a1, su_cell a1]
  · rw [h1 _ (by omega)]
    simp only [su_at]
    have e1 : ¬ 8 * o = 8 * j := by omega
    by_cases k4 : k = 4
    · subst k4; simp
    · by_cases k5 : k = 5
      · subst k5; simp [e1]
      · by_cases k6 : k = 6
        · subst k6; simp [e1]
        · simp [k4, k5, k6]
  · rw [h2 t ht, su_cell (by omega), su_cell (by omega), su_cell (by omega)]
theorem c_ta_loop {Q k : II → Prop} {I0 : II} (hjo : j ≠ o) (hk : ∀ J, (∀ a, a ≠ 8 * j + 1 → a ≠ 8 * j + 2 → a ≠ 8 * j + 3 → a ≠ 8 * j + 5 → J a = I0 a) → (∀ t, t < 4 → J (8 * j + 1) t = I0 (8 * o + 1) t ∧ J (8 * j + 2) t = I0 (8 * o + 2) t ∧ J (8 * j + 3) t = I0 (8 * o + 3) t ∧ J (8 * j + 5) t = I0 (8 * o + 5) t) → k J) : ∀ (d t : Nat) (I : II), t + d = 4 → (∀ a, a ≠ 8 * j + 1 → a ≠ 8 * j + 2 → a ≠ 8 * j + 3 → a ≠ 8 * j + 5 → I a = I0 a) → (∀ u, u < t → I (8 * j + 1) u = I0 (8 * o + 1) u ∧ I (8 * j + 2) u = I0 (8 * o + 2) u ∧ I (8 * j + 3) u = I0 (8 * o + 3) u ∧ I (8 * j + 5) u = I0 (8 * o + 5) u) → ∃ N, wp_X1_takeAll_58 j o Q k N (nI t) I := by
  intro d
  induction d with
  | zero =>
    intro t I ht h1 h2
    refine ⟨1, ?_⟩
    rw [wp_X1_takeAll_58.eq_2]
    have e : t = 4 := by omega
    subst e
    simp (disch := omega) only [nIle, Nat.le_refl, true_implies, not_true_eq_false, false_implies, and_true]
    exact hk I h1 h2
  | succ d ih =>
    intro t I ht h1 h2
    have c : ¬ 4 ≤ t := by omega
    have ht4 : t < 4 := by omega
    have q1 := h1 (8 * o + 1) (by omega) (by omega) (by omega) (by omega)
    have q2 := h1 (8 * o + 2) (by omega) (by omega) (by omega) (by omega)
    have q3 := h1 (8 * o + 3) (by omega) (by omega) (by omega) (by omega)
    have q5 := h1 (8 * o + 5) (by omega) (by omega) (by omega) (by omega)
    obtain ⟨N, hN⟩ := ih (t + 1) (su (su (su (su I (8 * j + 1) t (I0 (8 * o + 1) t)) (8 * j + 2) t (I0 (8 * o + 2) t)) (8 * j + 3) t (I0 (8 * o + 3) t)) (8 * j + 5) t (I0 (8 * o + 5) t)) (by omega) (fun a a1 a2 a3 a5 => by rw [su_cell a5, su_cell a3, su_cell a2, su_cell a1]; exact h1 a a1 a2 a3 a5) (fun u hu => by
      rw [su_cell (a' := 8 * j + 1) (a := 8 * j + 5) (by omega), su_cell (a' := 8 * j + 1) (a := 8 * j + 3) (by omega), su_cell (a' := 8 * j + 1) (a := 8 * j + 2) (by omega), su_cell (a' := 8 * j + 2) (a := 8 * j + 5) (by omega), su_cell (a' := 8 * j + 2) (a := 8 * j + 3) (by omega), su_cell (a' := 8 * j + 3) (a := 8 * j + 5) (by omega)]
      by_cases e : u = t
      · subst e; rw [su_eq, su_eq, su_eq, su_eq]; exact ⟨rfl, rfl, rfl, rfl⟩
      · rw [su_slot e, su_slot e, su_slot e, su_slot e, su_cell (a' := 8 * j + 2) (by omega), su_cell (a' := 8 * j + 3) (by omega), su_cell (a' := 8 * j + 3) (by omega), su_cell (a' := 8 * j + 5) (by omega), su_cell (a' := 8 * j + 5) (by omega), su_cell (a' := 8 * j + 5) (by omega)]
        exact h2 u (by omega))
    refine ⟨N + 1, ?_⟩
    rw [wp_X1_takeAll_58.eq_2]
    simp (disch := omega) only [nIle, c, false_implies, true_and, not_false_eq_true, true_implies, nIvp, nIcl, ht4, forall_eq, nI_add]
    rw [su_cell (a' := 8 * o + 5) (by omega), su_cell (a' := 8 * o + 5) (by omega), su_cell (a' := 8 * o + 5) (by omega), su_cell (a' := 8 * o + 3) (by omega), su_cell (a' := 8 * o + 3) (by omega), su_cell (a' := 8 * o + 2) (by omega), q1, q2, q3, q5]
    exact hN
theorem c_tb_loop {Q k : II → Prop} {I0 : II} (hjo : j ≠ o) (hk : ∀ J, (∀ a, a ≠ 8 * j + 6 → a ≠ 8 * j + 7 → J a = I0 a) → (∀ t, t < 7 → J (8 * j + 6) t = I0 (8 * o + 6) t ∧ J (8 * j + 7) t = I0 (8 * o + 7) t) → k J) : ∀ (d t : Nat) (I : II), t + d = 7 → (∀ a, a ≠ 8 * j + 6 → a ≠ 8 * j + 7 → I a = I0 a) → (∀ u, u < t → I (8 * j + 6) u = I0 (8 * o + 6) u ∧ I (8 * j + 7) u = I0 (8 * o + 7) u) → ∃ N, wp_X1_takeAll_119 j o Q k N (nI t) I := by
  intro d
  induction d with
  | zero =>
    intro t I ht h1 h2
    refine ⟨1, ?_⟩
    rw [wp_X1_takeAll_119.eq_2]
    have e : t = 7 := by omega
    subst e
    simp (disch := omega) only [nIle, Nat.le_refl, true_implies, not_true_eq_false, false_implies, and_true]
    exact hk I h1 h2
  | succ d ih =>
    intro t I ht h1 h2
    have c : ¬ 7 ≤ t := by omega
    have ht4 : t < 7 := by omega
    have q6 := h1 (8 * o + 6) (by omega) (by omega)
    have q7 := h1 (8 * o + 7) (by omega) (by omega)
    obtain ⟨N, hN⟩ := ih (t + 1) (su (su I (8 * j + 6) t (I0 (8 * o + 6) t)) (8 * j + 7) t (I0 (8 * o + 7) t)) (by omega) (fun a a1 a2 => by rw [su_cell a2, su_cell a1]; exact h1 a a1 a2) (fun u hu => by
      rw [su_cell (a' := 8 * j + 6) (a := 8 * j + 7) (by omega)]
      by_cases e : u = t
      · subst e; rw [su_eq, su_eq]; exact ⟨rfl, rfl⟩
      · rw [su_slot e, su_slot e, su_cell (a' := 8 * j + 7) (by omega)]
        exact h2 u (by omega))
    refine ⟨N + 1, ?_⟩
    rw [wp_X1_takeAll_119.eq_2]
    simp (disch := omega) only [nIle, c, false_implies, true_and, not_false_eq_true, true_implies, nIvp, nIcl, ht4, forall_eq, nI_add]
    rw [su_cell (a' := 8 * o + 7) (by omega), q6, q7]
    exact hN
theorem c_takeAll {Q : II → Prop} (hjo : j ≠ o) (hq : ∀ J, CP j o I J → Q J) : wp_X1_takeAll j o I Q := by
  unfold wp_X1_takeAll
  simp only [forall_eq]
  have e1 : ¬ 8 * o = 8 * j := by omega
  refine c_ta_loop hjo (fun J h1 h2 => c_tb_loop hjo (fun K k1 k2 => c_takeCourse hjo (fun L l1 l2 l3 => hq L ⟨fun k hk => ?_, fun i t i1 i5 ht => ?_, fun i p i1 i5 hp => ?_, fun a ha => ?_⟩)) 7 0 J (by omega) (fun _ _ _ => rfl) (fun _ h => absurd h (by omega))) 4 0 _ (by omega) (fun _ _ _ _ _ => rfl) (fun _ h => absurd h (by omega))
  · rw [l2 k, k1 _ (by omega) (by omega), k1 _ (by omega) (by omega), h1 _ (by omega) (by omega) (by omega) (by omega), h1 _ (by omega) (by omega) (by omega) (by omega)]
    simp only [su_at]
    have hk : k = 0 ∨ k = 1 ∨ k = 2 ∨ k = 3 ∨ k = 4 ∨ k = 5 ∨ k = 6 ∨ k = 7 ∨ k = 8 ∨ k = 9 := by omega
    rcases hk with rfl | rfl | rfl | rfl | rfl | rfl | rfl | rfl | rfl | rfl <;> simp [e1]
  · have hi : i = 1 ∨ i = 2 ∨ i = 3 ∨ i = 4 ∨ i = 5 := by omega
    have z : ∀ a, a ≠ 8 * j → ∀ (w0 w1 w2 w3 w4 w5 w6 : Int32), su (su (su (su (su (su (su I (8 * j) 0 w0) (8 * j) 1 w1) (8 * j) 2 w2) (8 * j) 3 w3) (8 * j) 7 w4) (8 * j) 8 w5) (8 * j) 9 w6 a = I a := fun a ha _ _ _ _ _ _ _ => by rw [su_cell ha, su_cell ha, su_cell ha, su_cell ha, su_cell ha, su_cell ha, su_cell ha]
    rcases hi with rfl | rfl | rfl | rfl | rfl
    · rw [l1 _ (by omega) (by omega), k1 _ (by omega) (by omega), (h2 t ht).1, z _ (by omega)]
    · rw [l1 _ (by omega) (by omega), k1 _ (by omega) (by omega), (h2 t ht).2.1, z _ (by omega)]
    · rw [l1 _ (by omega) (by omega), k1 _ (by omega) (by omega), (h2 t ht).2.2.1, z _ (by omega)]
    · rw [l3 t ht, k1 _ (by omega) (by omega), h1 _ (by omega) (by omega) (by omega) (by omega), z _ (by omega)]
    · rw [l1 _ (by omega) (by omega), k1 _ (by omega) (by omega), (h2 t ht).2.2.2, z _ (by omega)]
  · have hi : i = 6 ∨ i = 7 := by omega
    have z : ∀ a, a ≠ 8 * j → ∀ (w0 w1 w2 w3 w4 w5 w6 : Int32), su (su (su (su (su (su (su I (8 * j) 0 w0) (8 * j) 1 w1) (8 * j) 2 w2) (8 * j) 3 w3) (8 * j) 7 w4) (8 * j) 8 w5) (8 * j) 9 w6 a = I a := fun a ha _ _ _ _ _ _ _ => by rw [su_cell ha, su_cell ha, su_cell ha, su_cell ha, su_cell ha, su_cell ha, su_cell ha]
    rcases hi with rfl | rfl
    · rw [l1 _ (by omega) (by omega), (k2 p hp).1, h1 _ (by omega) (by omega) (by omega) (by omega), z _ (by omega)]
    · rw [l1 _ (by omega) (by omega), (k2 p hp).2, h1 _ (by omega) (by omega) (by omega) (by omega), z _ (by omega)]
  · rw [l1 a (by omega) (by omega), k1 a (by omega) (by omega), h1 a (by omega) (by omega) (by omega) (by omega), su_cell (by omega), su_cell (by omega), su_cell (by omega), su_cell (by omega), su_cell (by omega), su_cell (by omega), su_cell (by omega)]
/-- copyTown -/
theorem m_ct_loop {Q k : II → Prop} {I : II} {a b : Nat} {f : TW} (ha : a + 49 ≤ 1372) (hb : b + 49 ≤ 1372) (hd : a + 49 ≤ b ∨ b + 49 ≤ a ) (hf : ∀ q, q < 49 → I 316 (a + q) = f q) (hk : k (pT I b f)) : ∀ (d t : Nat) (g : TW), t + d = 49 → (∀ q, q < t → g q = f q) → (∀ q, t ≤ q → q < 49 → g q = I 316 (b + q)) → ∃ N, wp_X8_copyTown_2 Q k N (nI a) (nI b) (nI t) (pT I b g) := by
  intro d
  induction d with
  | zero =>
    intro t g ht h1 h2
    refine ⟨1, ?_⟩
    rw [wp_X8_copyTown_2.eq_2]
    have e : t = 49 := by omega
    subst e
    simp (disch := omega) only [nIle, Nat.le_refl, true_implies, not_true_eq_false, false_implies, and_true]
    rw [pT_congr (f := g) (g := f) h1]
    exact hk
  | succ d ih =>
    intro t g ht h1 h2
    have c : ¬ 49 ≤ t := by omega
    have g1 : a + t < 1372 := by omega
    have g2 : b + t < 1372 := by omega
    have e : pT I b g 316 (a + t) = f t := by rw [pT_row (by omega)]; exact hf t (by omega)
    obtain ⟨N, hN⟩ := ih (t + 1) (upd g t (f t)) (by omega) (fun q hq => by
      by_cases e : q = t
      · subst e; exact upd_eq _ _ _
      · rw [upd_ne e]; exact h1 q (by omega)) (fun q hq hq2 => by rw [upd_ne (by omega)]; exact h2 q (by omega) hq2)
    refine ⟨N + 1, ?_⟩
    rw [wp_X8_copyTown_2.eq_2]
    simp (disch := omega) only [nIle, c, false_implies, true_and, not_false_eq_true, true_implies, nI_add, nIvp, nIcl, g1, g2, e, forall_eq, pT_set]
    exact hN
theorem m_copyTown {Q : II → Prop} {I : II} {a b : Nat} {f : TW} (ha : a + 49 ≤ 1372) (hb : b + 49 ≤ 1372) (hd : a + 49 ≤ b ∨ b + 49 ≤ a) (hf : ∀ q, q < 49 → I 316 (a + q) = f q) (hk : Q (pT I b f)) : wp_X8_copyTown (nI a) (nI b) I Q := by
  have h := m_ct_loop (Q := Q) (k := fun I => Q I) ha hb hd hf hk 49 0 (gT_ I b) (by omega) (fun _ h => absurd h (by omega)) (fun q _ _ => rfl)
  rw [pT_self] at h
  exact h
end COPY
def itF (f : TW) : Nat → TW
  | 0 => f
  | n + 1 => passF (itF f n)
theorem itF_wf {f : TW} (hf : WF f) : ∀ n, WF (itF f n) := by
  intro n
  induction n with
  | zero => exact hf
  | succ n ih => exact ih.pass
theorem itF_n {f : TW} (hf : WF f) : ∀ n, tn (itF f n) = tn f := by
  intro n
  induction n with
  | zero => rfl
  | succ n ih => rw [itF, tn_pass (itF_wf hf n), ih]
theorem m_ps_loop {Q k : II → Prop} {I : II} {b n : Nat} {f : TW} (hb : b ≤ 1323) (hf : WF f) (hn : n < 2147483648) (hk : k (pT I b (itF f n))) : ∀ (d t : Nat), t + d = n → ∃ N, wp_X8_passes_2 Q k N (nI b) (nI n) (nI t) (pT I b (itF f t)) := by
  intro d
  induction d with
  | zero =>
    intro t ht
    refine ⟨1, ?_⟩
    rw [wp_X8_passes_2.eq_2]
    have e : t = n := by omega
    subst e
    simp (disch := omega) only [nIle, Nat.le_refl, true_implies, not_true_eq_false, false_implies, and_true]
    exact hk
  | succ d ih =>
    intro t ht
    have c : ¬ n ≤ t := by omega
    obtain ⟨N, hN⟩ := ih (t + 1) (by omega)
    refine ⟨N + 1, ?_⟩
    rw [wp_X8_passes_2.eq_2]
    simp (disch := omega) only [nIle, c, false_implies, true_and, not_false_eq_true, true_implies, nI_add]
    exact m_pass hb (itF_wf hf t) hN
theorem m_passes {Q : II → Prop} {I : II} {b n : Nat} {f : TW} (hb : b ≤ 1323) (hf : WF f) (hn : n < 2147483648) (hk : Q (pT I b (itF f n))) : wp_X8_passes (nI b) (nI n) (pT I b f) Q :=
  m_ps_loop (k := fun I => Q I) hb hf hn hk n 0 (by omega)
theorem m_layTried {Q : II → Prop} {I : II} {n : Nat} {f : TW} (hf : WF f) (hI : ∀ q, q < 49 → I 316 q = f q) (hn : n < 2147483648) (hk : Q (pT I 1323 (itF f n))) : wp_X8_layTried (nI n) I Q := by
  unfold wp_X8_layTried
  refine m_copyTown (a := 0) (b := 1323) (f := f) (by omega) (by omega) (by omega) (fun q hq => by rw [Nat.zero_add]; exact hI q hq) ?_
  exact m_passes (by omega) hf hn hk

/-! ===== pure: the class's bank serves as the town does ===== -/
theorem upd_comm {f : TW} {a b : Nat} {v w : Int32} (h : a ≠ b) : upd (upd f a v) b w = upd (upd f b w) a v := by
  funext q
  simp only [upd]
  by_cases h1 : q = b <;> by_cases h2 : q = a <;> simp [h1, h2]
  · omega
  · intro e; omega
  · intro e; omega
theorem upd_self (f : TW) (a : Nat) : upd f a (f a) = f := by
  funext q
  simp only [upd]
  by_cases h1 : q = a <;> simp [h1]
def dT (f : TW) (s : Int32) : Nat → Int32
  | 0 => (-nI 1000000)
  | t + 1 => if opT f t && pyT f t s && (decide (dT f s t = (-nI 1000000)) || decide (¬ f (41 + t) ≤ f (41 + (dT f s t).toNatClampNeg))) then nI t else dT f s t
def lT (f : TW) : Nat → Int32
  | 0 => (-nI 1000000)
  | t + 1 => if opT f t && (decide (lT f t = (-nI 1000000)) || decide (¬ f (41 + (lT f t).toNatClampNeg) ≤ f (41 + t))) then nI t else lT f t
theorem dT_in (f : TW) (s : Int32) : ∀ t, dT f s t = (-nI 1000000) ∨ ∃ b, b < t ∧ dT f s t = nI b := by
  intro t
  induction t with
  | zero => exact Or.inl rfl
  | succ t ih =>
    rw [dT]
    split
    · exact Or.inr ⟨t, Nat.lt_succ_self t, rfl⟩
    · rcases ih with h | ⟨b, h1, h2⟩
      · exact Or.inl h
      · exact Or.inr ⟨b, by omega, h2⟩
theorem lT_in (f : TW) : ∀ t, lT f t = (-nI 1000000) ∨ ∃ b, b < t ∧ lT f t = nI b := by
  intro t
  induction t with
  | zero => exact Or.inl rfl
  | succ t ih =>
    rw [lT]
    split
    · exact Or.inr ⟨t, Nat.lt_succ_self t, rfl⟩
    · rcases ih with h | ⟨b, h1, h2⟩
      · exact Or.inl h
      · exact Or.inr ⟨b, by omega, h2⟩
theorem wT_d {f : TW} {p : Nat} (h : f (22 + p) = nI 1) : ∀ t, wT f p t = dT f (f (15 + p)) t := by
  intro t
  have e10 : ¬ (nI 1 : Int32) = 0 := by decide
  induction t with
  | zero => rfl
  | succ t ih => rw [wT, dT, ih, h]; simp [e10, Bool.and_assoc]
theorem wT_l {f : TW} {p : Nat} (h : f (22 + p) = nI 0) : ∀ t, wT f p t = lT f t := by
  intro t
  have e10 : ¬ (nI 0 : Int32) = nI 1 := by decide
  have e00 : (nI 0 : Int32) = 0 := rfl
  have e01 : ¬ (0 : Int32) = nI 1 := by decide
  induction t with
  | zero => rfl
  | succ t ih => rw [wT, lT, ih, h]; simp [e10, e00, e01]
theorem i32_le (a b : Int32) : (a ≤ b) = ¬ b < a := by apply propext; rw [Int32.lt_iff_toInt_lt, Int32.le_iff_toInt_le]; omega
theorem i32_anti {a b : Int32} (h1 : a ≤ b) (h2 : b ≤ a) : a = b := by
  rw [Int32.le_iff_toInt_le] at h1 h2
  exact Int32.toInt_inj.mp (by omega)
theorem costT_nI {f : TW} {t s : Nat} (hk : ∃ k, 1 ≤ k ∧ k ≤ 5 ∧ f (29 + t) = nI k) (hc : ∃ c, 1 ≤ c ∧ c ≤ 9 ∧ f (37 + t) = nI c) (hs1 : 1 ≤ s) (hs : s ≤ 99) : ∃ c, 1 ≤ c ∧ c ≤ 101 ∧ costT f t (nI s) = nI c := by
  obtain ⟨k, k1, k5, ek⟩ := hk
  obtain ⟨c, c1, c9, ec⟩ := hc
  have hA : ∃ a, 1 ≤ a ∧ a ≤ 99 ∧ cA f t (nI s) = nI a := by
    rw [cA, ec]
    by_cases h : c < s
    · rw [nIsub (by omega), if_pos (by rw [nIle (by omega) (by omega)]; omega)]
      exact ⟨s - c, by omega, by omega, rfl⟩
    · refine ⟨1, by omega, by omega, ?_⟩
      by_cases h2 : nI 1 ≤ nI s - nI c
      · exfalso
        rw [Int32.le_iff_toInt_le, pk_sub_toInt (by omega) (by omega), nI_toInt (by omega)] at h2
        omega
      · rw [if_neg h2]
  obtain ⟨a, a1, a99, ea⟩ := hA
  rw [costT, ek, ea]
  by_cases e1 : k = 1
  · subst e1; exact ⟨a, a1, by omega, by rw [if_pos rfl]⟩
  rw [if_neg (by rw [nIeq (by omega) (by omega)]; exact e1)]
  by_cases e2 : k = 2
  · subst e2
    refine ⟨a / 2 + 1, by omega, by omega, ?_⟩
    rw [if_pos rfl, pk_div (by omega) (by omega) (by omega), nI_add]
  rw [if_neg (by rw [nIeq (by omega) (by omega)]; exact e2)]
  by_cases e3 : k = 3
  · subst e3; exact ⟨a + 2, by omega, by omega, by rw [if_pos rfl, nI_add]⟩
  rw [if_neg (by rw [nIeq (by omega) (by omega)]; exact e3)]
  by_cases e4 : k = 4
  · subst e4; exact ⟨s, by omega, by omega, by rw [if_pos rfl]⟩
  rw [if_neg (by rw [nIeq (by omega) (by omega)]; exact e4)]
  by_cases e5 : nI s ≤ nI 9
  · exact ⟨s, by omega, by omega, by rw [if_pos e5]⟩
  · exact ⟨9, by omega, by omega, by rw [if_neg e5]⟩
section BANK2
variable {s : Prop} {I : II} {j : Nat} {f : TW}
def hT (f : TW) (x : Int32) : Bool := decide (¬ x < 0) && decide (¬ f 0 ≤ x)
theorem hT_nI (hf : WF f) {t : Nat} (ht : t < 2147483648) : hT f (nI t) = decide (t < tn f) := by
  have := hf.n.2
  simp (disch := omega) only [hT, hf.n.1, nIlt0, nIle]
  simp
theorem hT_of (hf : WF f) {x : Int32} (h : hT f x = true) : ∃ t, t < tn f ∧ x = nI t := by
  rcases i32_cases x with hx | ⟨t, ht, rfl⟩
  · simp [hT, hx] at h
  · rw [hT_nI hf ht] at h
    exact ⟨t, by simpa using h, rfl⟩
theorem c_hasTeller (h : BK s I j f) (hf : WF f) (x : Int32) (Q : Int32 → II → Prop) : wp_X1_hasTeller j x I Q = Q (i1 (hT f x)) I := by
  unfold wp_X1_hasTeller
  rw [h.1.2.2.1]
  have h3 : ¬ x < 0 → ¬ f 0 ≤ x → ¬ nI 4 ≤ x := by
    intro a1 a2
    rcases i32_cases x with hx | ⟨t, ht, rfl⟩
    · exact absurd hx a1
    · rw [hf.n.1, nIle (by have := hf.n.2; omega) ht] at a2
      rw [nIle (by omega) ht]
      have := hf.n.2
      omega
  rw [hT]
  by_cases a1 : x < 0
  · simp [a1, i1]
  · by_cases a2 : f 0 ≤ x
    · simp [a1, a2, i1]
    · simp [a1, a2, h3 a1 a2, i1]
theorem c_isOpen (h : BK s I j f) {t : Nat} (ht : t < 4) (Q : Int32 → II → Prop) : wp_X1_isOpen j (nI t) I Q = Q (i1 (opT f t)) I := by
  unfold wp_X1_isOpen
  have c1 : ¬ 4 ≤ t := by omega
  simp (disch := omega) only [h.1.2.2.2.1, nIlt0, nIle, hasB_r, opT_r, c1, false_implies, true_implies, not_false_eq_true, true_and]
  cases opT f t <;> simp [i1]
theorem c_sumOf (h : BK s I j f) {p : Nat} (hp : p < 7) (hk : ¬ f (22 + p) = -nI 1) (Q : Int32 → II → Prop) : wp_X1_sumOf j (nI p) I Q = Q (f (15 + p)) I := by
  unfold wp_X1_sumOf
  have c1 : ¬ 7 ≤ p := by omega
  have := (h.2.2.2.2 p hp hk).2
  simp (disch := omega) only [nIlt0, nIle, c1, false_implies, true_implies, not_false_eq_true, true_and, nIvp, nIcl, hp, this]
theorem c_isDrawing (h : BK s I j f) {p : Nat} (hp : p < 7) (hk : ¬ f (22 + p) = -nI 1) (Q : Int32 → II → Prop) : wp_X1_isDrawing j (nI p) I Q = Q (i1 (decide (f (22 + p) = nI 1))) I := by
  unfold wp_X1_isDrawing
  have c1 : ¬ 7 ≤ p := by omega
  have := (h.2.2.2.2 p hp hk).1
  simp (disch := omega) only [nIlt0, nIle, c1, false_implies, true_implies, not_false_eq_true, true_and, hasB_r, this]
  cases decide (f (22 + p) = nI 1) <;> simp [i1]
theorem c_costTo (h : BK s I j f) (hf : WF f) {t : Nat} (ht : t < tn f) (x : Int32) (Q : Int32 → II → Prop) : wp_X1_costTo j (nI t) x I Q = Q (costT f t x) I := by
  obtain ⟨b1, b2, b3, b4, b5⟩ := h.2.1 t ht
  obtain ⟨⟨k, k1, k5, ek⟩, -⟩ := hf.te ht
  have ht4 : t < 4 := by have := hf.n.2; omega
  have key : ∀ v, v = cA f t x → wp_X1_costTo_35 j Q (nI t) x v I = Q (costT f t x) I := by
    intro v hv
    unfold wp_X1_costTo_35
    simp (disch := omega) only [nIvp, nIcl, ht4, true_and, b1, costT, ← hv]
    rw [ek]
    have hk : k = 1 ∨ k = 2 ∨ k = 3 ∨ k = 4 ∨ k = 5 := by omega
    have dz : ¬ (nI 2 : Int32) = 0 := by decide
    by_cases c5 : x ≤ nI 9
    · have c6 : ¬ nI 9 < x := by rw [i32_le] at c5; exact c5
      rcases hk with rfl | rfl | rfl | rfl | rfl <;> simp (disch := omega) [nIeq, dz, c5, c6]
    · have c6 : nI 9 < x := by rw [i32_le, Classical.not_not] at c5; exact c5
      rcases hk with rfl | rfl | rfl | rfl | rfl <;> simp (disch := omega) [nIeq, dz, c5, c6]
  unfold wp_X1_costTo
  simp (disch := omega) only [nIlt0, nIlt, nIvp, nIcl, ht4, true_and, false_implies, true_implies, not_false_eq_true, not_true_eq_false, and_true, b3]
  by_cases c : x - f (37 + t) ≤ nI 1
  · simp only [c, true_implies, not_true_eq_false, false_implies, and_true]
    refine key _ ?_
    rw [cA]
    by_cases c2 : nI 1 ≤ x - f (37 + t)
    · rw [if_pos c2]; exact i32_anti c2 c
    · rw [if_neg c2]
  · simp only [c, true_implies, not_false_eq_true, false_implies, true_and]
    refine key _ ?_
    rw [cA, if_pos]
    rw [i32_le, Classical.not_not] at c
    rw [i32_le]
    rw [Int32.lt_iff_toInt_lt] at c ⊢
    omega
theorem c_canPay (h : BK s I j f) (hf : WF f) {t : Nat} (ht : t < tn f) (x : Int32) (Q : Int32 → II → Prop) : wp_X1_canPay j (nI t) x I Q = Q (i1 (pyT f t x)) I := by
  obtain ⟨b1, b2, b3, b4, b5⟩ := h.2.1 t ht
  have ht4 : t < 4 := by have := hf.n.2; omega
  unfold wp_X1_canPay
  rw [c_hasTeller h hf, hT_nI hf (by omega)]
  simp (disch := omega) only [i1_0, ht, decide_true, Bool.true_eq_false, false_implies, true_and, not_false_eq_true, true_implies, nIvp, nIcl, ht4, c_costTo h hf ht, b4, h.1.1, pyT_r]
  cases pyT f t x <;> simp [i1]
set_option maxHeartbeats 4000000 in
theorem c_drawer_loop {Q : Int32 → II → Prop} {k : Int32 → II → Prop} {x : Int32} (h : BK s I j f) (hf : WF f) (hk : k (dT f x (tn f)) I) : ∀ (d t : Nat), t + d = tn f → ∃ N, wp_X1_drawerOf_5 j Q k N x (dT f x t) (nI t) I := by
  have hn := hf.n
  intro d
  induction d with
  | zero =>
    intro t ht
    refine ⟨1, ?_⟩
    rw [wp_X1_drawerOf_5.eq_2]
    have c : tn f ≤ t := by omega
    have e : t = tn f := by omega
    simp (disch := omega) only [h.1.2.2.1, hn.1, nIle, c, true_implies, not_true_eq_false, false_implies, and_true]
    rw [e]; exact hk
  | succ d ih =>
    intro t ht
    obtain ⟨N, hN⟩ := ih (t + 1) (by omega)
    refine ⟨N + 1, ?_⟩
    rw [wp_X1_drawerOf_5.eq_2]
    simp only [wp_X1_drawerOf_39, wp_X1_drawerOf_44, wp_X1_drawerOf_81]
    have htn : t < tn f := by omega
    have c1 : ¬ tn f ≤ t := by omega
    have c2 : ¬ 4 ≤ t := by omega
    have ht4 : t < 4 := by omega
    obtain ⟨b1, b2, b3, b4, b5⟩ := h.2.1 t htn
    have e10 : ¬ (nI 1 : Int32) = 0 := by decide
    have e00 : (nI 0 : Int32) = 0 := rfl
    have hbest := dT_in f x t
    rw [dT] at hN
    generalize dT f x t = w0 at hN hbest
    rcases hbest with e | ⟨b0, hb0, e⟩
    · subst e
      simp (disch := omega) only [h.1.2.2.1, hn.1, nIle, c1, c2, false_implies, true_and, not_false_eq_true, true_implies, not_true_eq_false, and_true, c_isOpen h ht4, i1_0, nIvp, nIcl, ht4, c_costTo h hf htn, b4, h.1.1, pyT_r, nI_add, e10] at hN ⊢
      cases hA : opT f t <;> cases hC : pyT f t x <;> simp [hA, hC] at hN ⊢ <;> exact hN
    · subst e
      have hb4 : b0 < 4 := by omega
      obtain ⟨-, -, -, b4', -⟩ := h.2.1 b0 (by omega)
      simp (disch := omega) only [h.1.2.2.1, hn.1, nIle, c1, c2, false_implies, true_and, not_false_eq_true, true_implies, not_true_eq_false, and_true, c_isOpen h ht4, i1_0, nIvp, nIcl, ht4, hb4, c_costTo h hf htn, b4, b4', h.1.1, pyT_r, nI_add, nIneg] at hN ⊢
      simp only [e10, e00, false_implies, not_false_eq_true, true_implies, not_true_eq_false, and_true, true_and] at hN ⊢
      cases hA : opT f t <;> cases hC : pyT f t x <;> by_cases hE : f (41 + t) ≤ f (41 + b0) <;> simp [hA, hC, hE] at hN ⊢ <;> exact hN
theorem c_drawerOf {Q : Int32 → II → Prop} {x : Int32} (h : BK s I j f) (hf : WF f) (hq : Q (dT f x (tn f)) I) : wp_X1_drawerOf j x I Q :=
  c_drawer_loop (k := fun x2 I => Q x2 I) h hf hq (tn f) 0 (by omega)
set_option maxHeartbeats 4000000 in
theorem c_poor_loop {Q : Int32 → II → Prop} {k : Int32 → II → Prop} (h : BK s I j f) (hf : WF f) (hk : k (lT f (tn f)) I) : ∀ (d t : Nat), t + d = tn f → ∃ N, wp_X1_poorestOpen_5 j Q k N (lT f t) (nI t) I := by
  have hn := hf.n
  intro d
  induction d with
  | zero =>
    intro t ht
    refine ⟨1, ?_⟩
    rw [wp_X1_poorestOpen_5.eq_2]
    have c : tn f ≤ t := by omega
    have e : t = tn f := by omega
    simp (disch := omega) only [h.1.2.2.1, hn.1, nIle, c, true_implies, not_true_eq_false, false_implies, and_true]
    rw [e]; exact hk
  | succ d ih =>
    intro t ht
    obtain ⟨N, hN⟩ := ih (t + 1) (by omega)
    refine ⟨N + 1, ?_⟩
    rw [wp_X1_poorestOpen_5.eq_2]
    simp only [wp_X1_poorestOpen_47, wp_X1_poorestOpen_49]
    have htn : t < tn f := by omega
    have c1 : ¬ tn f ≤ t := by omega
    have c2 : ¬ 4 ≤ t := by omega
    have ht4 : t < 4 := by omega
    obtain ⟨b1, b2, b3, b4, b5⟩ := h.2.1 t htn
    have hbest := lT_in f t
    rw [lT] at hN
    generalize lT f t = w0 at hN hbest
    rcases hbest with e | ⟨b0, hb0, e⟩
    · subst e
      simp (disch := omega) only [h.1.2.2.1, hn.1, nIle, c1, c2, false_implies, true_and, not_false_eq_true, true_implies, not_true_eq_false, and_true, c_isOpen h ht4, i1_0, nIvp, nIcl, ht4, b4, nI_add] at hN ⊢
      cases hA : opT f t <;> simp [hA] at hN ⊢ <;> exact hN
    · subst e
      have hb4 : b0 < 4 := by omega
      obtain ⟨-, -, -, b4', -⟩ := h.2.1 b0 (by omega)
      simp (disch := omega) only [h.1.2.2.1, hn.1, nIle, c1, c2, false_implies, true_and, not_false_eq_true, true_implies, not_true_eq_false, and_true, c_isOpen h ht4, i1_0, nIvp, nIcl, ht4, hb4, b4, b4', nI_add, nIneg] at hN ⊢
      cases hA : opT f t <;> by_cases hE : f (41 + b0) ≤ f (41 + t) <;> simp [hA, hE] at hN ⊢ <;> exact hN
theorem c_poorestOpen {Q : Int32 → II → Prop} (h : BK s I j f) (hf : WF f) (hq : Q (lT f (tn f)) I) : wp_X1_poorestOpen j I Q :=
  c_poor_loop (k := fun x2 I => Q x2 I) h hf hq (tn f) 0 (by omega)
theorem pyT_le (hf : WF f) {t : Nat} (ht : t < tn f) {x : Nat} (h1 : 1 ≤ x) (h2 : x ≤ 99) : f (41 + t) + -costT f t (nI x) ≤ nI 99 := by
  obtain ⟨hk, hd, hc, l, hl, el⟩ := hf.te ht
  obtain ⟨c, c1, c2, ec⟩ := costT_nI hk hc h1 h2
  rw [el, ec, ← Int32.sub_eq_add_neg, Int32.le_iff_toInt_le, pk_sub_toInt (by omega) (by omega), nI_toInt (by omega)]
  omega
theorem c_handOver {Q : II → Prop} (h : BK s I j f) (hf : WF f) {t p : Nat} (ht : t < tn f) (hp : p < 7) (hk : ¬ f (22 + p) = -nI 1) (hq : ∀ J, BK s J j (upd (upd (takeT f t p) 4 (f 4 + nI 1)) (45 + t) (f (45 + t) + nI 1)) → OUT j I J → Q J) : wp_X1_handOver j (nI t) (nI p) I Q := by
  obtain ⟨hn, hn4⟩ := hf.n
  obtain ⟨hw, hw7⟩ := hf.w
  have ht4 : t < 4 := by omega
  obtain ⟨b1, b2, b3, b4, b5⟩ := h.2.1 t ht
  have fin : ∀ (v : Int32), v = lfT f t p → ∀ (J : II), J = su I (8 * j + 4) t v → wp_X1_handOver_62 j Q (nI t) J := by
    intro v hv J hJ
    unfold wp_X1_handOver_62
    simp (disch := omega) only [nIvp, nIcl, ht4, true_and, forall_eq]
    have hJ' : BK s J j (takeT f t p) := by rw [hJ, takeT, ← hv]; exact h.left hn4 hw7 t v ht4
    have en : tn (takeT f t p) = tn f := by rw [tn, takeT, upd_ne (by omega)]; rfl
    have ew : tw (takeT f t p) = tw f := by rw [tw, takeT, upd_ne (by omega)]; rfl
    have e5 : J (8 * j + 5) t = I (8 * j + 5) t := by rw [hJ, su_cell (by omega)]
    have e5' : J (8 * j) 5 = f 4 := by rw [hJ, su_cell (by omega)]; exact h.1.2.2.2.2.2.1
    have hJ2 := hJ'.served (by rw [en]; exact hn4) (by rw [ew]; exact hw7) t (J (8 * j + 5) t + nI 1) (f (45 + t) + nI 1) ht4 (fun hs => by rw [e5, b5 hs])
    have hJ3 := hJ2.num 5 4 (su J (8 * j + 5) t (J (8 * j + 5) t + nI 1) (8 * j) 5 + nI 1) (by omega)
    have e6 : su J (8 * j + 5) t (J (8 * j + 5) t + nI 1) (8 * j) 5 = f 4 := by rw [su_cell (by omega)]; exact e5'
    rw [e6, upd_comm (by omega)] at hJ3
    rw [e6]
    have hO : OUT j I J := by rw [hJ]; exact (OUT.rf j I).su (by omega)
    exact hq _ hJ3 ((hO.su (by omega)).su (by omega))
  unfold wp_X1_handOver
  rw [c_hasTeller h hf, hT_nI hf (by omega)]
  obtain ⟨x, x1, x2, ex⟩ := hf.sm hp hk
  simp (disch := omega) only [i1_0, ht, decide_true, Bool.true_eq_false, false_implies, and_true, not_false_eq_true, true_implies, c_isDrawing h hp hk, c_sumOf h hp hk, nIvp, nIcl, ht4, true_and, b4, c_costTo h hf ht, forall_eq]
  by_cases hd : f (22 + p) = nI 1
  · simp only [hd, decide_true, Bool.true_eq_false, false_implies, true_and, not_false_eq_true, true_implies]
    refine fin _ ?_ _ rfl
    rw [lfT, gvT, if_pos hd, if_pos (by rw [ex]; exact pyT_le hf ht x1 (by omega)), Int32.sub_eq_add_neg]
  · simp only [hd, decide_false, not_true_eq_false, false_implies, and_true, true_implies]
    refine fin _ ?_ _ rfl
    rw [lfT, gvT, if_neg hd]
    by_cases c : f (41 + t) + f (15 + p) ≤ nI 99
    · rw [if_pos c, if_neg (by rw [i32_le] at c; exact c)]
    · rw [if_neg c, if_pos (by rw [i32_le, Classical.not_not] at c; exact c)]
theorem c_attend {Q : Int32 → II → Prop} (h : BK s I j f) (hf : WF f) {p : Nat} (hp : p < 7) (hk : ¬ f (22 + p) = -nI 1) (hq : ∀ J, BK s J j (serveT f p) → OUT j I J → Q (wT f p (tn f)) J) : wp_X1_attend j (nI p) I Q := by
  obtain ⟨hn, hn4⟩ := hf.n
  have fin : ∀ r, r = wT f p (tn f) → wp_X1_attend_24 j Q (nI p) r I := by
    intro r hr
    unfold wp_X1_attend_24
    rw [← hr] at hq
    rw [serveT, ← hr] at hq
    rcases wT_in f p (tn f) with e | ⟨t, ht, e⟩
    · rw [e] at hr
      subst hr
      simp only [not_true_eq_false, false_implies, true_and, true_implies, forall_eq]
      rw [if_pos rfl] at hq
      have h6 := h.num 6 5 (I (8 * j) 6 + nI 1) (by omega)
      rw [h.1.2.2.2.2.2.2.1] at h6 ⊢
      exact hq _ h6 ((OUT.rf j I).su (by omega))
    · rw [e] at hr
      subst hr
      have eN : ¬ nI t = (-nI 1000000) := by rw [nIneg (by omega) (by omega) (by omega)]; exact not_false
      simp only [eN, not_false_eq_true, true_implies, false_implies, and_true]
      rw [if_neg eN, nIcl (by omega)] at hq
      exact c_handOver h hf ht hp hk hq
  unfold wp_X1_attend
  rw [c_isDrawing h hp hk, i1_0, c_sumOf h hp hk]
  refine ⟨fun c => ?_, fun c => ?_⟩
  · refine c_poorestOpen h hf (fin _ ?_)
    have c' : ¬ f (22 + p) = nI 1 := by simpa using c
    rcases hf.dr hp with e | e | e
    · exact absurd e hk
    · exact (wT_l e _).symm
    · exact absurd e c'
  · refine c_drawerOf h hf (fin _ ?_)
    have c' : f (22 + p) = nI 1 := by simpa using c
    exact (wT_d c' _).symm
end BANK2

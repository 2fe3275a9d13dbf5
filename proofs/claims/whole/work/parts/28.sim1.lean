/-! ===== pure: calls, one by one: both answer alike, and the relation stays ===== -/
abbrev SIM (A B : II → (Int32 → II → Prop) → Prop) : Prop := ∀ I, INV I → A I (fun r J => B J (fun r' K => r = r' ∧ INV K))
def inB (a b : Nat) (x : Int32) : Bool := decide (nI a ≤ x) && decide (x ≤ nI b)
theorem inB_of {a b : Nat} (ha : a < 2147483648) (hb : b < 2147483648) {x : Int32} (h : inB a b x = true) : ∃ n, a ≤ n ∧ n ≤ b ∧ x = nI n := by
  simp only [inB, Bool.and_eq_true, decide_eq_true_eq] at h
  rcases i32_cases x with hx | ⟨n, hn, rfl⟩
  · exact absurd h.1 (neg_not hx ha)
  · rw [nIle ha hn, nIle hn hb] at h
    exact ⟨n, h.1, h.2, rfl⟩
theorem inB_nI {a b n : Nat} (ha : a < 2147483648) (hb : b < 2147483648) (hn : n < 2147483648) : inB a b (nI n) = decide (a ≤ n ∧ n ≤ b) := by
  simp (disch := omega) only [inB, nIle]
  by_cases h1 : a ≤ n <;> by_cases h2 : n ≤ b <;> simp [h1, h2]
theorem inB_neg {a b : Nat} (ha : a < 2147483648) {x : Int32} (h : x < 0) : inB a b x = false := by
  have := neg_not h ha
  simp [inB, this]
theorem m_inE (a b : Nat) (x : Int32) (I : II) (Q : Int32 → II → Prop) (ha : a < 2147483648) (hb : b < 2147483648) : wp_X8_in x.toInt64 (lN a) (lN b) I Q = Q (i1 (inB a b x)) I := by
  unfold wp_X8_in
  rw [lg_lt, lg_gt, i64_nI ha, i64_nI hb, i64_lt, i64_lt]
  have e1 : (x < nI a) = ¬ nI a ≤ x := by rw [i32_le, Classical.not_not]
  have e2 : (nI b < x) = ¬ x ≤ nI b := by rw [i32_le, Classical.not_not]
  rw [e1, e2, inB]
  by_cases c1 : nI a ≤ x <;> by_cases c2 : x ≤ nI b <;> simp [c1, c2, i1]
theorem k_isRow (x : Int32) (I : II) (Q : Int32 → II → Prop) : wp_X7_isRow x I Q = Q (i1 (inB 0 7 x)) I := by
  unfold wp_X7_isRow
  rcases i32_cases x with hx | ⟨n, hn, rfl⟩
  · rw [inB_neg (by omega) hx]; simp [hx, i1]
  · simp (disch := omega) only [nIlt0, nIle, inB_nI]
    by_cases c : 8 ≤ n
    · simp [c, i1, show ¬ n ≤ 7 by omega]
    · simp [c, i1, show n ≤ 7 by omega]
theorem k_isSum (x : Int32) (I : II) (Q : Int32 → II → Prop) : wp_X7_isSum x I Q = Q (i1 (inB 1 30 x)) I := by
  unfold wp_X7_isSum
  have e1 : (x < nI 1) = ¬ nI 1 ≤ x := by rw [i32_le, Classical.not_not]
  have e2 : (nI 30 < x) = ¬ x ≤ nI 30 := by rw [i32_le, Classical.not_not]
  rw [e1, e2, inB]
  by_cases c1 : nI 1 ≤ x <;> by_cases c2 : x ≤ nI 30 <;> simp [c1, c2, i1]
theorem k_isForetold (x : Int32) (I : II) (Q : Int32 → II → Prop) : wp_X7_isForetold x I Q = Q (i1 (inB 0 60 x)) I := by
  unfold wp_X7_isForetold
  have e1 : (x < 0) = ¬ nI 0 ≤ x := by rw [i32_le, Classical.not_not, nI_0]
  have e2 : (nI 60 < x) = ¬ x ≤ nI 60 := by rw [i32_le, Classical.not_not]
  rw [e1, e2, inB]
  by_cases c1 : nI 0 ≤ x <;> by_cases c2 : x ≤ nI 60 <;> simp [c1, c2, i1]
theorem k_isWatched (x : Int32) (I : II) (Q : Int32 → II → Prop) : wp_X7_isWatched x I Q = Q (i1 (inB 1 12 x)) I := by
  unfold wp_X7_isWatched
  have e1 : (x < nI 1) = ¬ nI 1 ≤ x := by rw [i32_le, Classical.not_not]
  have e2 : (nI 12 < x) = ¬ x ≤ nI 12 := by rw [i32_le, Classical.not_not]
  rw [e1, e2, inB]
  by_cases c1 : nI 1 ≤ x <;> by_cases c2 : x ≤ nI 12 <;> simp [c1, c2, i1]
theorem k_isChoice (x : Int32) (I : II) (Q : Int32 → II → Prop) : wp_X7_isChoice x I Q = Q (i1 (inB 0 1 x)) I := by
  unfold wp_X7_isChoice wp_X7_isChoice_9
  rcases i32_cases x with hx | ⟨n, hn, rfl⟩
  · rw [inB_neg (by omega) hx]
    have e0 : ¬ x = 0 := fun e => by rw [e] at hx; exact absurd hx (by decide)
    have e1 : ¬ x = nI 1 := fun e => by rw [e] at hx; exact absurd hx (by decide)
    simp [e0, e1, i1]
  · simp (disch := omega) only [nIe0, nIeq, inB_nI]
    by_cases c0 : n = 0
    · simp [c0, i1]
    · by_cases c1 : n = 1
      · simp [c1, i1]
      · simp [c0, c1, i1, show ¬ n ≤ 1 by omega]
section SIM1
variable {I : II} {f : TW}
theorem c_isThere {s : Prop} {j : Nat} (h : BK s I j f) (hf : WF f) (Q : Int32 → II → Prop) : wp_X1_isThere j I Q = Q (i1 (decide (0 < tn f))) I := by
  unfold wp_X1_isThere
  have := hf.n.2
  simp (disch := omega) only [h.1.2.2.1, hf.n.1, nIle0]
  by_cases c : tn f = 0
  · simp [c, i1]
  · simp [c, i1, show 0 < tn f by omega]
theorem m_isTeller (hI : ∀ q, q < 49 → I 316 q = f q) (hf : WF f) (x : Int32) (Q : Int32 → II → Prop) : wp_X8_isTeller x I Q = Q (i1 (hT f x)) I := by
  unfold wp_X8_isTeller
  have n4 := hf.n.2
  have e0 : I 316 0 = nI (tn f) := by rw [hI 0 (by omega), hf.n.1]
  simp (disch := omega) only [nIvp, nIcl, e0]
  have key : wp_X8_in x.toInt64 (lN 0) (nI (tn f) - nI 1).toInt64 I (fun r3 I2 => isb r3 ∧ Q r3 I2) = Q (i1 (hT f x)) I := by
    by_cases c : tn f = 0
    · have e : hT f x = false := by
        rw [hT, hf.n.1, c]
        by_cases hx : x < 0
        · simp [hx]
        · have : nI 0 ≤ x := by rw [nI_0, i32_le]; exact hx
          simp [this]
      rw [e]
      unfold wp_X8_in
      rw [lg_lt, lg_gt, i64_nI (by omega), i64_lt, i64_lt, c]
      have e1 : (nI 0 - nI 1 : Int32) = -nI 1 := by decide
      rw [e1]
      by_cases hx : x < nI 0
      · simp [hx, i1, isb]; exact fun _ => Or.inl rfl
      · have h2 : (-nI 1 : Int32) < x := by
          rw [Int32.lt_iff_toInt_lt] at hx ⊢
          have a1 : (nI 0 : Int32).toInt = 0 := by decide
          have a2 : (-nI 1 : Int32).toInt = -1 := by decide
          omega
        simp [hx, h2, i1, isb]; exact fun _ => Or.inl rfl
    · rw [nIsub (by omega), ← i64_nI (by omega), m_inE _ _ _ _ _ (by omega) (by omega)]
      have e : inB 0 (tn f - 1) x = hT f x := by
        rcases i32_cases x with hx | ⟨n, hn, rfl⟩
        · rw [inB_neg (by omega) hx]; simp [hT, hx]
        · rw [inB_nI (by omega) (by omega) hn, hT_nI hf hn]
          by_cases c2 : n < tn f
          · simp [c2, show n ≤ tn f - 1 by omega]
          · simp [c2, show ¬ n ≤ tn f - 1 by omega]
      rw [e]
      exact propext ⟨fun z => z.2, fun z => ⟨i1_b _, z⟩⟩
  rw [key]
  exact propext ⟨fun z => z.2, fun z => ⟨by omega, z⟩⟩
end SIM1
theorem s_fault : SIM wp_X7_fault wp_X8_fault := by
  intro I v
  obtain ⟨f, sz, lt, h, p, c, m, o, i, r, t, ms, k⟩ := id v
  exact ⟨ms.1, v⟩
theorem s_status : SIM wp_X7_status wp_X8_status := by
  intro I v
  obtain ⟨f, sz, lt, h, p, c, m, o, i, r, t, ms, k⟩ := id v
  exact ⟨ms.2, v⟩
theorem pT_I {I : II} {b : Nat} {f : TW} (h : ∀ q, q < 49 → I 316 (b + q) = f q) : pT I b f = I := by
  rw [← pT_congr (f := gT_ I b) h, pT_self]
theorem m_cost0 {I : II} {f : TW} (hI : ∀ q, q < 49 → I 316 q = f q) {t : Nat} (ht : t < 4) (y : Int32) (Q : Int32 → II → Prop) : wp_X8_costOf (nI 0) (nI t) y I Q = Q (costT f t y) I := by
  have e : pT I 0 f = I := pT_I (fun q hq => by rw [Nat.zero_add]; exact hI q hq)
  have := m_costOf (I := I) (b := 0) (f := f) (Q := Q) (s := y) (by omega) ht
  rw [e] at this
  exact this
theorem m_may0 {I : II} {f : TW} (hI : ∀ q, q < 49 → I 316 q = f q) {t : Nat} (ht : t < 4) (y : Int32) (Q : Int32 → II → Prop) : wp_X8_mayPay (nI 0) (nI t) y I Q = Q (i1 (pyT f t y)) I := by
  have e : pT I 0 f = I := pT_I (fun q hq => by rw [Nat.zero_add]; exact hI q hq)
  have := m_mayPay (I := I) (b := 0) (f := f) (Q := Q) (s := y) (by omega) ht
  rw [e] at this
  exact this
theorem s_kind (x : Int32) : SIM (wp_X7_kind x) (wp_X8_kind x) := by
  intro I v
  obtain ⟨f, sz, lt, h, p, c, m, o, i, r, t, ms, k⟩ := id v
  unfold wp_X7_kind wp_X8_kind
  simp only [c_hasTeller c.1 p.1, m_isTeller m.1 p.1, i1_0]
  cases hb : hT f x with
  | false => simp only [Bool.true_eq_false, Bool.false_eq_true, false_implies, true_implies, not_true_eq_false, not_false_eq_true, and_true, true_and]; exact v
  | true =>
    obtain ⟨t, ht, rfl⟩ := hT_of p.1 hb
    have n4 := p.1.n.2
    have h1 := (c.1.2.1 t ht).1
    have h2 := m.1 (29 + t) (by omega)
    have g1 : t < 4 := by omega
    have g2 : 29 + t < 1372 := by omega
    simp (disch := omega) only [Bool.true_eq_false, Bool.false_eq_true, false_implies, true_implies, not_true_eq_false, not_false_eq_true, and_true, true_and, nI_add, nIvp, nIcl, h1, h2, g1, g2]
    exact v
theorem s_cost (x y : Int32) : SIM (wp_X7_cost x y) (wp_X8_cost x y) := by
  intro I v
  obtain ⟨f, sz, lt, h, p, c, m, o, i, r, t, ms, k⟩ := id v
  unfold wp_X7_cost wp_X8_cost
  simp (disch := omega) only [c_hasTeller c.1 p.1, m_isTeller m.1 p.1, i1_0, k_isSum, m_inE]
  cases hb : hT f x with
  | false => simp only [Bool.true_eq_false, Bool.false_eq_true, false_implies, true_implies, not_true_eq_false, not_false_eq_true, and_true, true_and]; exact v
  | true =>
    obtain ⟨t, ht, rfl⟩ := hT_of p.1 hb
    have n4 := p.1.n.2
    cases hy : inB 1 30 y with
    | false => simp only [Bool.true_eq_false, Bool.false_eq_true, false_implies, true_implies, not_true_eq_false, not_false_eq_true, and_true, true_and]; exact v
    | true =>
      simp only [Bool.true_eq_false, Bool.false_eq_true, false_implies, true_implies, not_true_eq_false, not_false_eq_true, and_true, true_and, c_costTo c.1 p.1 ht]
      simp (disch := omega) only [m_isTeller m.1 p.1, i1_0, hb, Bool.true_eq_false, Bool.false_eq_true, false_implies, true_implies, not_true_eq_false, not_false_eq_true, and_true, true_and, m_inE, hy, m_cost0 m.1]
      exact v
theorem s_queue (x : Int32) : SIM (wp_X7_queue x) (wp_X8_queue x) := by
  intro I v
  obtain ⟨f, sz, lt, h, p, c, m, o, i, r, t, ms, k⟩ := id v
  have w7 := p.1.w.2
  have e7 : I 316 7 = nI (tw f) := by rw [m.1 7 (by omega), p.1.w.1]
  unfold wp_X7_queue wp_X8_queue
  simp (disch := omega) only [c_isThere c.1 p.1, m.2.2.1, i1_0, decide_eq_false_iff_not, nIvp, nIcl, e7]
  by_cases h0 : 0 < tn f
  · simp only [h0, Bool.true_eq_false, Bool.false_eq_true, false_implies, true_implies, not_true_eq_false, not_false_eq_true, and_true, true_and]
    rcases i32_cases x with hx | ⟨n, hn, rfl⟩
    · have e : ¬ 0 ≤ x := by rw [i32_le, Classical.not_not]; exact hx
      simp only [e, Bool.true_eq_false, Bool.false_eq_true, false_implies, true_implies, not_true_eq_false, not_false_eq_true, and_true, true_and]; exact v
    · simp (disch := omega) only [nI0le, Bool.true_eq_false, Bool.false_eq_true, false_implies, true_implies, not_true_eq_false, not_false_eq_true, and_true, true_and, nIle]
      by_cases c1 : n < tw f
      · have g1 : ¬ tw f ≤ n := by omega
        have g2 : 8 + n < 1372 := by omega
        have e8 : I 316 (8 + n) = nI (tq f n) := by rw [m.1 _ (by omega), (p.1.q c1).1]
        simp (disch := omega) only [c_paperAt c.1 p.1 c1, g1, g2, Bool.true_eq_false, Bool.false_eq_true, false_implies, true_implies, not_true_eq_false, not_false_eq_true, and_true, true_and, nI_add, nIvp, nIcl, e8, m.2.2.1, i1_0, h0, decide_true, e7, nIle]
        exact ⟨by omega, v⟩
      · have g1 : tw f ≤ n := by omega
        unfold wp_X1_paperAt
        simp (disch := omega) only [c.1.1.2.2.2.2.2.2.2, p.1.w.1, nIlt0, nIle, g1, Bool.true_eq_false, Bool.false_eq_true, false_implies, true_implies, not_true_eq_false, not_false_eq_true, and_true, true_and, m.2.2.1, i1_0, h0, decide_true, e7, nIcl, nIvp]
        exact ⟨by omega, v⟩
  · simp only [h0, Bool.true_eq_false, Bool.false_eq_true, false_implies, true_implies, not_true_eq_false, not_false_eq_true, and_true, true_and]; exact v
theorem s_teller (x y : Int32) : SIM (wp_X7_teller x y) (wp_X8_teller x y) := by
  intro I v
  obtain ⟨f, sz, lt, h, p, c, m, o, i, r, t, ms, k⟩ := id v
  unfold wp_X7_teller wp_X8_teller
  simp only [c_hasTeller c.1 p.1, m_isTeller m.1 p.1, i1_0]
  cases hb : hT f x with
  | false => simp only [Bool.true_eq_false, Bool.false_eq_true, false_implies, true_implies, not_true_eq_false, not_false_eq_true, and_true, true_and]; exact v
  | true =>
    obtain ⟨t, ht, rfl⟩ := hT_of p.1 hb
    have n4 := p.1.n.2
    obtain ⟨b1, b2, b3, b4, b5⟩ := c.1.2.1 t ht
    have b5 := b5 trivial
    have g1 : t < 4 := by omega
    have h33 := m.1 (33 + t) (by omega)
    have h37 := m.1 (37 + t) (by omega)
    have h41 := m.1 (41 + t) (by omega)
    have h45 := m.1 (45 + t) (by omega)
    have h6 := m.1 6 (by omega)
    have k1 : 33 + t < 1372 := by omega
    have k2 : 37 + t < 1372 := by omega
    have k3 : 41 + t < 1372 := by omega
    have k4 : 45 + t < 1372 := by omega
    have hop : ((f 6 >>> (nI t &&& 31)) &&& nI 1) = i1 (opT f t) := by
      rw [opT, hasB, i1]
      have ht : t = 0 ∨ t = 1 ∨ t = 2 ∨ t = 3 := by omega
      by_cases e : ((f 6 >>> (nI t &&& 31)) &&& nI 1) = nI 1
      · simp [e]
      · simp only [e, decide_false]
        exact bit01 e
    simp (disch := omega) only [Bool.true_eq_false, Bool.false_eq_true, false_implies, true_implies, not_true_eq_false, not_false_eq_true, and_true, true_and, nI_add, nIvp, nIcl, g1, b2, b3, b4, b5, h33, h37, h41, h45, h6, c_isOpen c.1 g1, i1_0, k1, k2, k3, k4, hop]
    have n01 : ¬ (nI 0 : Int32) = nI 1 := by decide
    refine ⟨fun e => ?_, fun e => ?_, fun e => ?_, fun e => ?_, fun e => ?_, fun e0 e1 e2 e3 e4 => ?_⟩
    · subst e; simp (disch := omega) [nIeq]; exact v
    · subst e; simp (disch := omega) [nIeq]; exact v
    · subst e; simp (disch := omega) [nIeq]; exact v
    · subst e
      have e3 : ∀ z, z = i1 (opT f t) → (z = 0 → wp_X8_isTeller (nI t) I fun r2 I1 => (¬ r2 = 0 → nI 0 = I1 316 6 >>> (nI t &&& 31) &&& nI 1 ∧ INV I1) ∧ (r2 = 0 → nI 0 = -nI 1000001 ∧ INV I1)) ∧ (¬ z = 0 → wp_X8_isTeller (nI t) I fun r2 I1 => (¬ r2 = 0 → nI 1 = I1 316 6 >>> (nI t &&& 31) &&& nI 1 ∧ INV I1) ∧ (r2 = 0 → nI 1 = -nI 1000001 ∧ INV I1)) := by
        intro z hz
        simp only [m_isTeller m.1 p.1, i1_0, hb, Bool.true_eq_false, Bool.false_eq_true, false_implies, true_implies, not_true_eq_false, not_false_eq_true, and_true, true_and, h6, hop, hz]
        cases opT f t <;> simp [i1] <;> exact v
      have e4 := e3 _ rfl
      rw [i1_0] at e4
      cases ho : opT f t <;> rw [ho] at e4 <;> simp (disch := omega) [nIeq] <;> simpa using e4
    · subst e; simp (disch := omega) [nIeq]; exact v
    · simp only [e0, e1, e2, e3, e4, Bool.true_eq_false, Bool.false_eq_true, false_implies, true_implies, not_true_eq_false, not_false_eq_true, and_true, true_and]; exact v
/-- the place of a paper in the queue -/
def plS (f : TW) (x : Int32) : Nat → Int32
  | 0 => (-nI 1000000)
  | k + 1 => if f (8 + k) = x then nI k else plS f x k
theorem plS_at {f : TW} {x : Int32} {k : Nat} (hx : f (8 + k) = x) : ∀ w, k < w → (∀ i, k < i → i < w → ¬ f (8 + i) = x) → plS f x w = nI k := by
  intro w
  induction w with
  | zero => intro h; omega
  | succ w ih =>
    intro h hi
    rw [plS]
    by_cases e : k = w
    · subst e; rw [if_pos hx]
    · rw [if_neg (hi w (by omega) (by omega))]; exact ih (by omega) (fun i a b => hi i a (by omega))
theorem plS_no {f : TW} {x : Int32} : ∀ w, (∀ i, i < w → ¬ f (8 + i) = x) → plS f x w = (-nI 1000000) := by
  intro w
  induction w with
  | zero => intro _; rfl
  | succ w ih => intro h; rw [plS, if_neg (h w (by omega))]; exact ih (fun i hi => h i (by omega))
theorem c_pl_loop {s : Prop} {I : II} {j : Nat} {f : TW} {x : Int32} {Q : Int32 → II → Prop} {k26 : Int32 → II → Prop} {k34 : II → Prop} (h : BK s I j f) (hf : WF f) (h1 : ∀ k, k < tw f → f (8 + k) = x → k26 (nI k) I) (h2 : (∀ i, i < tw f → ¬ f (8 + i) = x) → k34 I) : ∀ (d t : Nat), t + d = tw f → (∀ i, i < t → ¬ f (8 + i) = x) → ∃ N, wp_X1_placeOf_2 j Q k26 k34 N x (nI t) I := by
  have hw := hf.w
  intro d
  induction d with
  | zero =>
    intro t ht hi
    refine ⟨1, ?_⟩
    rw [wp_X1_placeOf_2.eq_2]
    have c : tw f ≤ t := by omega
    have e : t = tw f := by omega
    simp (disch := omega) only [h.1.2.2.2.2.2.2.2, hw.1, nIle, c, Bool.true_eq_false, Bool.false_eq_true, false_implies, true_implies, not_true_eq_false, not_false_eq_true, and_true, true_and]
    exact h2 (by rw [← e]; exact hi)
  | succ d ih =>
    intro t ht hi
    have c1 : ¬ tw f ≤ t := by omega
    have c2 : ¬ 7 ≤ t := by omega
    have c3 : t < 7 := by omega
    have hq := h.2.2.1 t (by omega)
    by_cases e : f (8 + t) = x
    · refine ⟨1, ?_⟩
      rw [wp_X1_placeOf_2.eq_2]
      simp (disch := omega) only [h.1.2.2.2.2.2.2.2, hw.1, nIle, c1, c2, c3, Bool.true_eq_false, Bool.false_eq_true, false_implies, true_implies, not_true_eq_false, not_false_eq_true, and_true, true_and, nIvp, nIcl, hq, e]
      exact h1 t (by omega) e
    · obtain ⟨N, hN⟩ := ih (t + 1) (by omega) (fun i hi2 => by
        by_cases e2 : i = t
        · subst e2; exact e
        · exact hi i (by omega))
      refine ⟨N + 1, ?_⟩
      rw [wp_X1_placeOf_2.eq_2]
      simp (disch := omega) only [h.1.2.2.2.2.2.2.2, hw.1, nIle, c1, c2, c3, Bool.true_eq_false, Bool.false_eq_true, false_implies, true_implies, not_true_eq_false, not_false_eq_true, and_true, true_and, nIvp, nIcl, hq, e, nI_add]
      exact hN
theorem c_placeOf {s : Prop} {I : II} {j : Nat} {f : TW} {x : Int32} {Q : Int32 → II → Prop} (h : BK s I j f) (hf : WF f) (hq : Q (plS f x (tw f)) I) : wp_X1_placeOf j x I Q := by
  have w7 := hf.w.2
  refine c_pl_loop h hf (fun k hk e => ?_) (fun hn => ?_) (tw f) 0 (by omega) (fun i h => absurd h (by omega))
  · rw [plS_at e _ hk (fun i a b e2 => ?_)] at hq
    · exact hq
    · have q1 := hf.q hk
      have q2 := hf.q b
      have : tq f i = tq f k := by
        have z := e2.trans e.symm
        rw [q1.1, q2.1, nIeq (by omega) (by omega)] at z
        exact z
      have := hf.dist b hk this
      omega
  · rw [plS_no _ hn] at hq
    exact hq
theorem m_pl_loop {I : II} {f : TW} {x : Int32} {Q : Int32 → II → Prop} {k : Int32 → II → Prop} (hI : ∀ q, q < 49 → I 316 q = f q) (hf : WF f) (hk : k (plS f x (tw f)) I) : ∀ (d t : Nat), t + d = tw f → ∃ N, wp_X8_placeOf_5 Q k N x (plS f x t) (nI t) I := by
  have hw := hf.w
  have e7 : I 316 7 = nI (tw f) := by rw [hI 7 (by omega), hw.1]
  intro d
  induction d with
  | zero =>
    intro t ht
    refine ⟨1, ?_⟩
    rw [wp_X8_placeOf_5.eq_2]
    have c : tw f ≤ t := by omega
    have e : t = tw f := by omega
    simp (disch := omega) only [e7, nIvp, nIcl, nIle, c, Bool.true_eq_false, Bool.false_eq_true, false_implies, true_implies, not_true_eq_false, not_false_eq_true, and_true, true_and]
    rw [e]
    exact ⟨by omega, hk⟩
  | succ d ih =>
    intro t ht
    have c1 : ¬ tw f ≤ t := by omega
    have g : 8 + t < 1372 := by omega
    have e8 := hI (8 + t) (by omega)
    obtain ⟨N, hN⟩ := ih (t + 1) (by omega)
    refine ⟨N + 1, ?_⟩
    rw [wp_X8_placeOf_5.eq_2]
    simp (disch := omega) only [wp_X8_placeOf_34, e7, nIle, c1, Bool.true_eq_false, Bool.false_eq_true, false_implies, true_implies, not_true_eq_false, not_false_eq_true, and_true, true_and, nIvp, nIcl, nI_add, g, e8]
    rw [plS] at hN
    refine ⟨by omega, fun c => ?_, fun c => ?_⟩
    · rw [if_neg c] at hN; exact hN
    · rw [if_pos c] at hN; exact hN
theorem m_placeOf {I : II} {f : TW} {x : Int32} {Q : Int32 → II → Prop} (hI : ∀ q, q < 49 → I 316 q = f q) (hf : WF f) (hq : Q (plS f x (tw f)) I) : wp_X8_placeOf x I Q :=
  m_pl_loop (k := fun x2 I => Q x2 I) hI hf hq (tw f) 0 (by omega)
/-- a paper that is, or was there -/
def kpT (f : TW) (x : Int32) : Bool := inB 0 6 x && decide (¬ f (22 + x.toNatClampNeg) = -nI 1)
theorem kpT_of {f : TW} {x : Int32} (h : kpT f x = true) : ∃ p, p < 7 ∧ x = nI p ∧ ¬ f (22 + p) = -nI 1 := by
  simp only [kpT, Bool.and_eq_true, decide_eq_true_eq] at h
  obtain ⟨n, -, h2, e⟩ := inB_of (by omega) (by omega) h.1
  subst e
  rw [nIcl (by omega)] at h
  exact ⟨n, by omega, rfl, h.2⟩
theorem c_knows {s : Prop} {I : II} {j : Nat} {f : TW} (h : BK s I j f) (x : Int32) (Q : Int32 → II → Prop) : wp_X1_knowsPaper j x I Q = Q (i1 (kpT f x)) I := by
  unfold wp_X1_knowsPaper
  rcases i32_cases x with hx | ⟨n, hn, rfl⟩
  · rw [kpT, inB_neg (by omega) hx]; simp [hx, i1]
  · simp (disch := omega) only [kpT, nIlt0, nIle, inB_nI, nIcl, hasB_r]
    by_cases c : 7 ≤ n
    · simp [c, i1, show ¬ n ≤ 6 by omega]
    · rw [h.2.2.2.1 n (by omega)]
      simp only [c, Bool.true_eq_false, Bool.false_eq_true, false_implies, true_implies, not_true_eq_false, not_false_eq_true, and_true, true_and, show n ≤ 6 by omega, Nat.zero_le, decide_true, Bool.true_and]
      by_cases e : f (22 + n) = -nI 1 <;> simp [e, i1]
theorem m_isPaper {I : II} {f : TW} (hI : ∀ q, q < 49 → I 316 q = f q) (x : Int32) (Q : Int32 → II → Prop) : wp_X8_isPaper x I Q = Q (i1 (kpT f x)) I := by
  unfold wp_X8_isPaper
  rw [m_inE _ _ _ _ _ (by omega) (by omega), i1_0, kpT]
  cases hb : inB 0 6 x with
  | false => simp [i1]
  | true =>
    obtain ⟨n, -, h2, e⟩ := inB_of (by omega) (by omega) hb
    subst e
    have g : 22 + n < 1372 := by omega
    have e22 := hI (22 + n) (by omega)
    simp (disch := omega) only [Bool.true_eq_false, Bool.false_eq_true, false_implies, true_implies, not_true_eq_false, not_false_eq_true, and_true, true_and, nI_add, nIvp, nIcl, g, e22, Bool.true_and]
    by_cases e : f (22 + n) = -nI 1 <;> simp [e, i1]
theorem s_paper (x y : Int32) : SIM (wp_X7_paper x y) (wp_X8_paper x y) := by
  intro I v
  obtain ⟨f, sz, lt, h, p, c, m, o, i, r, t, ms, k⟩ := id v
  unfold wp_X7_paper
  rw [c_knows c.1, i1_0]
  have mdl : ∀ z : Int32, wp_X8_paper x y I (fun r' K => z = r' ∧ INV K) = ((kpT f x = false → z = -nI 1000001 ∧ INV I) ∧ (kpT f x = true → ((inB 0 2 y = true → ((¬ y = 0 → ((¬ y = nI 1 → wp_X8_placeOf x I (fun r' K => z = r' ∧ INV K)) ∧ (y = nI 1 → (vp_in (nI 22 + x) 1372 ∧ (z = I 316 (nI 22 + x).toNatClampNeg ∧ INV I))))) ∧ (y = 0 → (vp_in (nI 15 + x) 1372 ∧ (z = I 316 (nI 15 + x).toNatClampNeg ∧ INV I))))) ∧ (inB 0 2 y = false → z = -nI 1000001 ∧ INV I)))) := by
    intro z
    unfold wp_X8_paper
    rw [m_isPaper m.1, i1_0, m_inE _ _ _ _ _ (by omega) (by omega), i1_0]
    simp only [Bool.not_eq_false]
  cases hb : kpT f x with
  | false => simp only [Bool.true_eq_false, Bool.false_eq_true, false_implies, true_implies, not_true_eq_false, not_false_eq_true, and_true, true_and, mdl, hb]; exact v
  | true =>
    obtain ⟨q, hq, rfl, hk⟩ := kpT_of hb
    have e15 := m.1 (15 + q) (by omega)
    have e22 := m.1 (22 + q) (by omega)
    have g1 : 15 + q < 1372 := by omega
    have g2 : 22 + q < 1372 := by omega
    simp only [Bool.true_eq_false, Bool.false_eq_true, false_implies, true_implies, not_true_eq_false, not_false_eq_true, and_true, true_and]
    refine ⟨fun e => ?_, fun e => ?_, fun e => ?_, fun e0 e1 e2 => ?_⟩
    · subst e
      rw [c_sumOf c.1 hq hk, mdl, hb, inB_nI (by omega) (by omega) (by omega)]
      simp (disch := omega) only [Bool.true_eq_false, Bool.false_eq_true, false_implies, true_implies, not_true_eq_false, not_false_eq_true, and_true, true_and, nIe0, nI_add, nIvp, nIcl, e15, g1]
      simp
      exact v
    · subst e
      rw [c_isDrawing c.1 hq hk, i1_0]
      have hy : inB 0 2 (nI 1) = true := by rw [inB_nI (by omega) (by omega) (by omega)]; rfl
      have y0 : ¬ (nI 1 : Int32) = 0 := by decide
      rcases p.1.dr hq with d | d | d
      · exact absurd d hk
      · have d1 : ¬ (nI 0 : Int32) = nI 1 := by decide
        rw [d] at e22 ⊢
        simp (disch := omega) only [d1, decide_false, Bool.true_eq_false, Bool.false_eq_true, false_implies, true_implies, not_true_eq_false, not_false_eq_true, and_true, true_and, mdl, hb, hy, y0, nI_add, nIvp, nIcl, e22, g2]
        exact v
      · simp (disch := omega) only [d, decide_true, Bool.true_eq_false, Bool.false_eq_true, false_implies, true_implies, not_true_eq_false, not_false_eq_true, and_true, true_and, mdl, hb, hy, y0, nI_add, nIvp, nIcl, e22, g2]
        exact v
    · subst e
      refine c_placeOf c.1 p.1 ?_
      have hy : inB 0 2 (nI 2) = true := by rw [inB_nI (by omega) (by omega) (by omega)]; rfl
      have y0 : ¬ (nI 2 : Int32) = 0 := by decide
      have y1 : ¬ (nI 2 : Int32) = nI 1 := by decide
      simp only [Bool.true_eq_false, Bool.false_eq_true, false_implies, true_implies, not_true_eq_false, not_false_eq_true, and_true, true_and, mdl, hb, hy, y0, y1]
      exact m_placeOf m.1 p.1 ⟨rfl, v⟩
    · have hy : inB 0 2 y = false := by
        cases hy : inB 0 2 y with
        | false => rfl
        | true =>
          obtain ⟨n, -, h2, e⟩ := inB_of (by omega) (by omega) hy
          subst e
          have : n = 0 ∨ n = 1 ∨ n = 2 := by omega
          rcases this with rfl | rfl | rfl
          · exact absurd rfl e0
          · exact absurd rfl e1
          · exact absurd rfl e2
      simp only [Bool.true_eq_false, Bool.false_eq_true, false_implies, true_implies, not_true_eq_false, not_false_eq_true, and_true, true_and, mdl, hb, hy]
      exact v
theorem m_in_at {I : II} {Q : Int32 → II → Prop} {n z : Nat} (hz : z < 2147483648) (hn : n < z) (h : Q (nI 1) I) : wp_X8_in (nI n).toInt64 (lN 0) (nI z - nI 1).toInt64 I Q := by
  rw [nIsub (by omega), ← i64_nI (n := z - 1) (by omega), m_inE _ _ _ _ _ (by omega) (by omega), inB_nI (by omega) (by omega) (by omega), decide_eq_true (by omega)]
  exact h
theorem m_in_no {I : II} {Q : Int32 → II → Prop} {x : Int32} {z : Nat} (hz : z < 2147483648) (hx : x < 0 ∨ nI z ≤ x) (h : Q (nI 0) I) : wp_X8_in x.toInt64 (lN 0) (nI z - nI 1).toInt64 I Q := by
  by_cases z0 : z = 0
  · subst z0
    have e1 : (nI 0 - nI 1 : Int32) = -nI 1 := by decide
    unfold wp_X8_in
    rw [lg_lt, lg_gt, i64_nI (by omega), i64_lt, i64_lt, e1]
    refine ⟨fun _ => h, fun c => ⟨fun _ => h, fun d => absurd ?_ d⟩⟩
    rw [Int32.lt_iff_toInt_lt] at c ⊢
    have a1 : (nI 0 : Int32).toInt = 0 := by decide
    have a2 : (-nI 1 : Int32).toInt = -1 := by decide
    omega
  · rw [nIsub (by omega), ← i64_nI (by omega), m_inE _ _ _ _ _ (by omega) (by omega)]
    have e : inB 0 (z - 1) x = false := by
      rcases i32_cases x with hx2 | ⟨n, hn, rfl⟩
      · exact inB_neg (by omega) hx2
      · rw [nIlt0 hn, nIle hz hn] at hx
        rw [inB_nI (by omega) (by omega) hn]
        rcases hx with hx | hx
        · exact absurd hx id
        · exact decide_eq_false (by omega)
    rw [e]; exact h
theorem s_trace (x : Int32) : SIM (wp_X7_trace x) (wp_X8_trace x) := by
  intro I v
  obtain ⟨f, sz, lt, h, p, c, m, o, i, r, t, ms, z, z16, k1, k2, k3⟩ := id v
  unfold wp_X7_trace wp_X0_traceAt
  rw [k1]
  have n0 : (nI 0 : Int32) = 0 := rfl
  have n1 : ¬ (nI 1 : Int32) = 0 := by decide
  have no : (x < 0 ∨ nI z ≤ x) → wp_X8_trace x I (fun r' K => (-nI 1000000) = r' ∧ INV K) := fun hx => by
    unfold wp_X8_trace
    rw [k2]
    exact m_in_no (by omega) hx ⟨fun _ => ⟨rfl, v⟩, fun q => absurd n0 q⟩
  rcases i32_cases x with hx | ⟨n, hn, rfl⟩
  · simp only [hx, Bool.true_eq_false, Bool.false_eq_true, false_implies, true_implies, not_true_eq_false, not_false_eq_true, and_true, true_and]; exact no (Or.inl hx)
  · simp (disch := omega) only [nIlt0, Bool.true_eq_false, Bool.false_eq_true, false_implies, true_implies, not_true_eq_false, not_false_eq_true, and_true, true_and, nIle]
    by_cases c1 : z ≤ n
    · simp only [c1, Bool.true_eq_false, Bool.false_eq_true, false_implies, true_implies, not_true_eq_false, not_false_eq_true, and_true, true_and]; exact no (Or.inr (by rw [nIle (by omega) hn]; exact c1))
    · have g : n < 16 := by omega
      have g2 : ¬ 16 ≤ n := by omega
      simp (disch := omega) only [c1, Bool.true_eq_false, Bool.false_eq_true, false_implies, true_implies, not_true_eq_false, not_false_eq_true, and_true, true_and, g2, nIvp, nIcl, g]
      unfold wp_X8_trace
      rw [k2]
      exact m_in_at (by omega) (by omega) ⟨fun q => absurd q n1, fun _ => ⟨by rw [nIvp (by omega) (by omega)]; exact g, by rw [nIcl (by omega)]; exact k3 n (by omega), v⟩⟩

/-! ===== pure: a turn; what a town keeps to ===== -/
def tn (f : TW) : Nat := (f 0).toNatClampNeg
def tw (f : TW) : Nat := (f 7).toNatClampNeg
def tq (f : TW) (k : Nat) : Nat := (f (8 + k)).toNatClampNeg
/-- paper p is served, wherever it stands -/
def serveT (f : TW) (p : Nat) : TW := if wT f p (tn f) = (-nI 1000000) then upd f 5 (f 5 + nI 1) else upd (upd (takeT f (wT f p (tn f)).toNatClampNeg p) 4 (f 4 + nI 1)) (45 + (wT f p (tn f)).toNatClampNeg) (f (45 + (wT f p (tn f)).toNatClampNeg) + nI 1)
/-- the turn ends -/
def finT (f : TW) : TW := if tn f = 0 then upd f 3 (f 3 + nI 1) else endT f (tn f)
def passR (f : TW) : Int32 := if tw f = 0 then (-nI 1000000) else wT f (tq f 0) (tn f)
def passF (f : TW) : TW := finT (if tw f = 0 then f else leaveT (serveT f (tq f 0)) (tw f))
def WF (f : TW) : Prop :=
  (f 0 = nI (tn f) ∧ tn f ≤ 4) ∧ (f 7 = nI (tw f) ∧ tw f ≤ 7) ∧
  (∀ k, k < tw f → f (8 + k) = nI (tq f k) ∧ tq f k < 7) ∧
  (∀ i k, i < tw f → k < tw f → tq f i = tq f k → i = k) ∧
  (∀ p, p < 7 → f (22 + p) = -nI 1 ∨ f (22 + p) = nI 0 ∨ f (22 + p) = nI 1) ∧
  (∀ k, k < tw f → ¬ f (22 + tq f k) = -nI 1) ∧
  (∀ p, p < 7 → ¬ f (22 + p) = -nI 1 → ∃ s, 1 ≤ s ∧ s ≤ 30 ∧ f (15 + p) = nI s) ∧
  (∀ t, t < tn f → (∃ k, 1 ≤ k ∧ k ≤ 5 ∧ f (29 + t) = nI k) ∧ (∃ d, d ≤ 60 ∧ f (33 + t) = nI d) ∧ (∃ c, 1 ≤ c ∧ c ≤ 9 ∧ f (37 + t) = nI c) ∧ ∃ l, l ≤ 99 ∧ f (41 + t) = nI l) ∧
  (0 < tn f → (∃ w, 1 ≤ w ∧ w ≤ 20 ∧ f 2 = nI w) ∧ ∃ i, i ≤ 20 ∧ f 1 = nI i)
section TOWN2
variable {I : II} {b : Nat} {f : TW}
theorem WF.n (h : WF f) : f 0 = nI (tn f) ∧ tn f ≤ 4 := h.1
theorem WF.w (h : WF f) : f 7 = nI (tw f) ∧ tw f ≤ 7 := h.2.1
theorem WF.q (h : WF f) {k : Nat} (hk : k < tw f) : f (8 + k) = nI (tq f k) ∧ tq f k < 7 := h.2.2.1 k hk
theorem WF.dist (h : WF f) {i k : Nat} (hi : i < tw f) (hk : k < tw f) (e : tq f i = tq f k) : i = k := h.2.2.2.1 i k hi hk e
theorem WF.dr (h : WF f) {p : Nat} (hp : p < 7) : f (22 + p) = -nI 1 ∨ f (22 + p) = nI 0 ∨ f (22 + p) = nI 1 := h.2.2.2.2.1 p hp
theorem WF.kn (h : WF f) {k : Nat} (hk : k < tw f) : ¬ f (22 + tq f k) = -nI 1 := h.2.2.2.2.2.1 k hk
theorem WF.sm (h : WF f) {p : Nat} (hp : p < 7) (hk : ¬ f (22 + p) = -nI 1) : ∃ s, 1 ≤ s ∧ s ≤ 30 ∧ f (15 + p) = nI s := h.2.2.2.2.2.2.1 p hp hk
theorem WF.te (h : WF f) {t : Nat} (ht : t < tn f) : (∃ k, 1 ≤ k ∧ k ≤ 5 ∧ f (29 + t) = nI k) ∧ (∃ d, d ≤ 60 ∧ f (33 + t) = nI d) ∧ (∃ c, 1 ≤ c ∧ c ≤ 9 ∧ f (37 + t) = nI c) ∧ ∃ l, l ≤ 99 ∧ f (41 + t) = nI l := h.2.2.2.2.2.2.2.1 t ht
theorem WF.wk (h : WF f) (h0 : 0 < tn f) : (∃ w, 1 ≤ w ∧ w ≤ 20 ∧ f 2 = nI w) ∧ ∃ i, i ≤ 20 ∧ f 1 = nI i := h.2.2.2.2.2.2.2.2 h0
theorem WF.wk0 (h : WF f) (h0 : 0 < tn f) : ¬ f 2 = 0 := by
  obtain ⟨⟨w, h1, h2, e⟩, -⟩ := h.wk h0
  rw [e, nIe0 (by omega)]
  omega
theorem m_pass {Q : Int32 → II → Prop} (hb : b ≤ 1323) (hf : WF f) (h : Q (passR f) (pT I b (passF f))) : wp_X8_pass (nI b) (pT I b f) Q := by
  obtain ⟨hn, hn4⟩ := hf.n
  obtain ⟨hw, hw7⟩ := hf.w
  have h7 : b + 7 < 1372 := by omega
  have h8 : b + 8 < 1372 := by omega
  have h5 : b + 5 < 1372 := by omega
  have h4 : b + 4 < 1372 := by omega
  unfold wp_X8_pass
  simp (disch := omega) only [nI_add, Nat.add_assoc, nIvp, nIcl, pT_get, hw, nIle0, h7, true_and]
  by_cases h0 : tw f = 0
  · simp only [h0, true_implies, not_true_eq_false, false_implies, and_true]
    rw [passR, passF, if_pos h0, if_pos h0] at h
    exact m_pass92 hb hn hn4 hf.wk0 h
  · simp only [h0, false_implies, true_and, not_false_eq_true, true_implies, h8]
    rw [passR, passF, if_neg h0, if_neg h0] at h
    obtain ⟨hq, hq7⟩ := hf.q (k := 0) (by omega)
    have hq : f 8 = nI (tq f 0) := hq
    rw [hq]
    refine m_who hb hn hn4 hq7 ?_
    have fin : ∀ (g : TW) (r : Int32), g 0 = f 0 → g 2 = f 2 → g 7 = f 7 → Q r (pT I b (finT (leaveT g (tw f)))) → wp_X8_pass_87 Q (nI b) r (pT I b g) := by
      intro g r e0 e2 e7 hg
      unfold wp_X8_pass_87
      refine m_leaveFirst (w := tw f) hb (by rw [e7, hw]) hw7 (by omega) ?_
      have l0 : leaveT g (tw f) 0 = nI (tn f) := by rw [leaveT, upd_ne (by omega), mvT_oth _ _ 0 (by omega), e0, hn]
      have l2 : leaveT g (tw f) 2 = f 2 := by rw [leaveT, upd_ne (by omega), mvT_oth _ _ 2 (by omega), e2]
      have en : tn (leaveT g (tw f)) = tn f := by rw [tn, l0, nI_clamp (by omega)]
      refine m_pass92 (n := tn f) hb l0 hn4 (fun z => by rw [l2]; exact hf.wk0 z) ?_
      rw [finT, en] at hg
      exact hg
    rw [serveT] at h
    rcases wT_in f (tq f 0) (tn f) with e | ⟨t, ht, e⟩
    · rw [e] at h ⊢
      simp (disch := omega) only [not_true_eq_false, false_implies, true_and, true_implies, nI_add, Nat.add_assoc, nIvp, nIcl, pT_get, forall_eq, pT_set, h5]
      rw [if_pos rfl] at h
      exact fin _ _ (upd_ne (by omega)) (upd_ne (by omega)) (upd_ne (by omega)) h
    · rw [e] at h ⊢
      have ht4 : t < 4 := by omega
      have h45 : b + (45 + t) < 1372 := by omega
      have eN : ¬ nI t = (-nI 1000000) := by rw [nIneg (by omega) (by omega) (by omega)]; exact not_false
      rw [if_neg eN, nIcl (by omega)] at h
      have k4 : takeT f t (tq f 0) 4 = f 4 := upd_ne (by omega)
      have k45 : takeT f t (tq f 0) (45 + t) = f (45 + t) := upd_ne (by omega)
      have k45' : upd (takeT f t (tq f 0)) 4 (f 4 + nI 1) (45 + t) = f (45 + t) := by rw [upd_ne (by omega), k45]
      simp (disch := omega) only [eN, not_false_eq_true, false_implies, and_true, true_implies, m_takeFrom, nI_add, Nat.add_assoc, nIvp, nIcl, pT_get, forall_eq, pT_set, h4, h45, k4, k45', true_and]
      refine fin _ _ ?_ ?_ ?_ h
      · rw [upd_ne (by omega), upd_ne (by omega)]; exact upd_ne (by omega)
      · rw [upd_ne (by omega), upd_ne (by omega)]; exact upd_ne (by omega)
      · rw [upd_ne (by omega), upd_ne (by omega)]; exact upd_ne (by omega)
end TOWN2
/-! ===== pure: a bank of the class holds a town; s: who served how many, too ===== -/
def BK (s : Prop) (I : II) (j : Nat) (f : TW) : Prop :=
  (I (8 * j) 0 = f 1 ∧ I (8 * j) 1 = f 2 ∧ I (8 * j) 2 = f 0 ∧ I (8 * j) 3 = f 6 ∧ I (8 * j) 4 = f 3 ∧ I (8 * j) 5 = f 4 ∧ I (8 * j) 6 = f 5 ∧ I (8 * j) 7 = f 7) ∧
  (∀ t, t < tn f → I (8 * j + 1) t = f (29 + t) ∧ I (8 * j + 2) t = f (33 + t) ∧ I (8 * j + 3) t = f (37 + t) ∧ I (8 * j + 4) t = f (41 + t) ∧ (s → I (8 * j + 5) t = f (45 + t))) ∧
  (∀ k, k < tw f → I (8 * j + 7) k = f (8 + k)) ∧
  (∀ p, p < 7 → hasB (I (8 * j) 9) (nI p) = decide (¬ f (22 + p) = -nI 1)) ∧
  (∀ p, p < 7 → ¬ f (22 + p) = -nI 1 → hasB (I (8 * j) 8) (nI p) = decide (f (22 + p) = nI 1) ∧ I (8 * j + 6) p = f (15 + p))
def OUT (j : Nat) (I J : II) : Prop := ∀ a, (a < 8 * j ∨ 8 * j + 8 ≤ a) → J a = I a
theorem OUT.rf (j : Nat) (I : II) : OUT j I I := fun _ _ => rfl
theorem OUT.tr {j : Nat} {I J K : II} (h : OUT j I J) (h2 : OUT j J K) : OUT j I K := fun a ha => (h2 a ha).trans (h a ha)
theorem OUT.su {j : Nat} {I J : II} {a k : Nat} {v : Int32} (h : OUT j I J) (ha : 8 * j ≤ a ∧ a < 8 * j + 8) : OUT j I (su J a k v) := fun q hq => by rw [su_cell (by omega)]; exact h q hq
section BANK
variable {s : Prop} {I : II} {j : Nat} {f : TW}
theorem BK.num (h : BK s I j f) (sl ix : Nat) (v : Int32) (hm : (sl = 0 ∧ ix = 1) ∨ (sl = 1 ∧ ix = 2) ∨ (sl = 3 ∧ ix = 6) ∨ (sl = 4 ∧ ix = 3) ∨ (sl = 5 ∧ ix = 4) ∨ (sl = 6 ∧ ix = 5)) : BK s (su I (8 * j) sl v) j (upd f ix v) := by
  obtain ⟨⟨h0, h1, h2, h3, h4, h5, h6, h7⟩, ht, hq, hk, hd⟩ := h
  have e1 : tn (upd f ix v) = tn f := by rw [tn, tn, upd_ne (by omega)]
  have e2 : tw (upd f ix v) = tw f := by rw [tw, tw, upd_ne (by omega)]
  refine ⟨?_, fun t h => ?_, fun k h => ?_, fun p h => ?_, fun p h g => ?_⟩
  · rcases hm with ⟨rfl, rfl⟩ | ⟨rfl, rfl⟩ | ⟨rfl, rfl⟩ | ⟨rfl, rfl⟩ | ⟨rfl, rfl⟩ | ⟨rfl, rfl⟩ <;> simp [su_at, upd, h0, h1, h2, h3, h4, h5, h6, h7]
  · rw [e1] at h
    rw [upd_ne (by omega), upd_ne (by omega), upd_ne (by omega), upd_ne (by omega), upd_ne (by omega), su_cell (by omega), su_cell (by omega), su_cell (by omega), su_cell (by omega), su_cell (by omega)]
    exact ht t h
  · rw [e2] at h
    rw [upd_ne (by omega), su_cell (by omega)]
    exact hq k h
  · rw [upd_ne (by omega), su_slot (by omega)]; exact hk p h
  · rw [upd_ne (by omega)] at g
    rw [upd_ne (by omega), upd_ne (by omega), su_slot (by omega), su_cell (by omega)]
    exact hd p h g
theorem BK.left (h : BK s I j f) (hf4 : tn f ≤ 4) (hf7 : tw f ≤ 7) (t : Nat) (v : Int32) (ht4 : t < 4) : BK s (su I (8 * j + 4) t v) j (upd f (41 + t) v) := by
  obtain ⟨hx, ht, hq, hk, hd⟩ := h
  have e1 : tn (upd f (41 + t) v) = tn f := by rw [tn, tn, upd_ne (by omega)]
  have e2 : tw (upd f (41 + t) v) = tw f := by rw [tw, tw, upd_ne (by omega)]
  refine ⟨?_, fun u h => ?_, fun k h => ?_, fun p h => ?_, fun p h g => ?_⟩
  · rw [su_cell (by omega)]
    simp only [upd_ne (f := f) (k := 41 + t) (v := v) (show 1 ≠ 41 + t by omega), upd_ne (f := f) (k := 41 + t) (v := v) (show 2 ≠ 41 + t by omega), upd_ne (f := f) (k := 41 + t) (v := v) (show 0 ≠ 41 + t by omega), upd_ne (f := f) (k := 41 + t) (v := v) (show 6 ≠ 41 + t by omega), upd_ne (f := f) (k := 41 + t) (v := v) (show 3 ≠ 41 + t by omega), upd_ne (f := f) (k := 41 + t) (v := v) (show 4 ≠ 41 + t by omega), upd_ne (f := f) (k := 41 + t) (v := v) (show 5 ≠ 41 + t by omega), upd_ne (f := f) (k := 41 + t) (v := v) (show 7 ≠ 41 + t by omega)]
    exact hx
  · rw [e1] at h
    obtain ⟨a1, a2, a3, a4, a5⟩ := ht u h
    rw [upd_ne (by omega), upd_ne (by omega), upd_ne (by omega), upd_ne (k' := 45 + u) (by omega), su_cell (by omega), su_cell (by omega), su_cell (by omega), su_cell (a' := 8 * j + 5) (by omega)]
    refine ⟨a1, a2, a3, ?_, a5⟩
    by_cases e : u = t
    · subst e; rw [su_eq, upd_eq]
    · rw [su_slot e, upd_ne (by omega)]; exact a4
  · rw [e2] at h
    rw [upd_ne (by omega), su_cell (by omega)]
    exact hq k h
  · rw [upd_ne (by omega), su_cell (by omega)]; exact hk p h
  · rw [upd_ne (by omega)] at g
    rw [upd_ne (by omega), upd_ne (by omega), su_cell (by omega), su_cell (by omega)]
    exact hd p h g
theorem BK.served (h : BK s I j f) (hf4 : tn f ≤ 4) (hf7 : tw f ≤ 7) (t : Nat) (v w : Int32) (ht4 : t < 4) (hv : s → v = w) : BK s (su I (8 * j + 5) t v) j (upd f (45 + t) w) := by
  obtain ⟨hx, ht, hq, hk, hd⟩ := h
  have e1 : tn (upd f (45 + t) w) = tn f := by rw [tn, tn, upd_ne (by omega)]
  have e2 : tw (upd f (45 + t) w) = tw f := by rw [tw, tw, upd_ne (by omega)]
  refine ⟨?_, fun u h => ?_, fun k h => ?_, fun p h => ?_, fun p h g => ?_⟩
  · rw [su_cell (by omega)]
    simp only [upd_ne (f := f) (k := 45 + t) (v := w) (show 1 ≠ 45 + t by omega), upd_ne (f := f) (k := 45 + t) (v := w) (show 2 ≠ 45 + t by omega), upd_ne (f := f) (k := 45 + t) (v := w) (show 0 ≠ 45 + t by omega), upd_ne (f := f) (k := 45 + t) (v := w) (show 6 ≠ 45 + t by omega), upd_ne (f := f) (k := 45 + t) (v := w) (show 3 ≠ 45 + t by omega), upd_ne (f := f) (k := 45 + t) (v := w) (show 4 ≠ 45 + t by omega), upd_ne (f := f) (k := 45 + t) (v := w) (show 5 ≠ 45 + t by omega), upd_ne (f := f) (k := 45 + t) (v := w) (show 7 ≠ 45 + t by omega)]
    exact hx
  · rw [e1] at h
    obtain ⟨a1, a2, a3, a4, a5⟩ := ht u h
    rw [upd_ne (by omega), upd_ne (by omega), upd_ne (by omega), upd_ne (k' := 41 + u) (by omega), su_cell (by omega), su_cell (by omega), su_cell (by omega), su_cell (a' := 8 * j + 4) (by omega)]
    refine ⟨a1, a2, a3, a4, fun hs => ?_⟩
    by_cases e : u = t
    · subst e; rw [su_eq, upd_eq]; exact hv hs
    · rw [su_slot e, upd_ne (by omega)]; exact a5 hs
  · rw [e2] at h
    rw [upd_ne (by omega), su_cell (by omega)]
    exact hq k h
  · rw [upd_ne (by omega), su_cell (by omega)]; exact hk p h
  · rw [upd_ne (by omega)] at g
    rw [upd_ne (by omega), upd_ne (by omega), su_cell (by omega), su_cell (by omega)]
    exact hd p h g
theorem BK.ext {g : TW} (h : BK s I j f) (hf4 : tn f ≤ 4) (hf7 : tw f ≤ 7) (e : ∀ q, q < 49 → g q = f q) : BK s I j g := by
  obtain ⟨hx, ht, hq, hk, hd⟩ := h
  have e1 : tn g = tn f := by rw [tn, tn, e 0 (by omega)]
  have e2 : tw g = tw f := by rw [tw, tw, e 7 (by omega)]
  refine ⟨?_, fun t h => ?_, fun k h => ?_, fun p h => ?_, fun p h g1 => ?_⟩
  · rw [e 0 (by omega), e 1 (by omega), e 2 (by omega), e 3 (by omega), e 4 (by omega), e 5 (by omega), e 6 (by omega), e 7 (by omega)]; exact hx
  · rw [e1] at h
    rw [e _ (by omega), e _ (by omega), e _ (by omega), e _ (by omega), e _ (by omega)]
    exact ht t h
  · rw [e2] at h
    rw [e _ (by omega)]; exact hq k h
  · rw [e _ (by omega)]; exact hk p h
  · rw [e _ (by omega)] at g1
    rw [e _ (by omega), e _ (by omega)]; exact hd p h g1
end BANK

/-! ===== pure: a town, 49 numbers (the reference's order): 0 tellers 1 infancy 2 week 3 turn 4 paid 5 unpaid 6 open 7 waits 8 queue 15 sum 22 draws 29 kinds 33 days 37 care 41 left 45 served ===== -/
abbrev TW : Type := Nat → Int32
def cA (f : TW) (t : Nat) (s : Int32) : Int32 := if nI 1 ≤ s - f (37 + t) then s - f (37 + t) else nI 1
def costT (f : TW) (t : Nat) (s : Int32) : Int32 := if f (29 + t) = nI 1 then cA f t s else if f (29 + t) = nI 2 then cA f t s / nI 2 + nI 1 else if f (29 + t) = nI 3 then cA f t s + nI 2 else if f (29 + t) = nI 4 then s else if s ≤ nI 9 then s else nI 9
def hasB (x : Int32) (k : Int32) : Bool := decide (((x >>> (k &&& 31)) &&& nI 1) = nI 1)
theorem hasB_r (x k : Int32) : (((x >>> (k &&& 31)) &&& nI 1) = nI 1) = (hasB x k = true) := by simp [hasB]
theorem bit01 {x y : Int32} (h : ¬ ((x >>> y) &&& nI 1) = nI 1) : ((x >>> y) &&& nI 1) = nI 0 := by
  generalize (x >>> y) = z at h ⊢
  have e := pk_and z (m := nI 1) 1 (by decide)
  rw [e] at h ⊢
  have h2 := Nat.mod_lt z.toBitVec.toNat (show 0 < 2 ^ 1 by decide)
  have h3 : z.toBitVec.toNat % 2 ^ 1 = 0 ∨ z.toBitVec.toNat % 2 ^ 1 = 1 := by omega
  rcases h3 with h3 | h3
  · rw [h3]
  · rw [h3] at h; exact absurd rfl h
def pyT (f : TW) (t : Nat) (s : Int32) : Bool := decide (¬ f (41 + t) - costT f t s < f 1)
theorem pyT_r (f : TW) (t : Nat) (s : Int32) : (f (41 + t) - costT f t s < f 1) = (pyT f t s = false) := by simp [pyT]
def opT (f : TW) (t : Nat) : Bool := hasB (f 6) (nI t)
theorem opT_r (f : TW) (t : Nat) : hasB (f 6) (nI t) = opT f t := rfl
def i1 (c : Bool) : Int32 := if c then nI 1 else nI 0
theorem i1_0 (c : Bool) : (i1 c = 0) = (c = false) := by cases c <;> simp [i1] <;> decide
theorem i1_b (c : Bool) : isb (i1 c) := by cases c; exact Or.inl rfl; exact Or.inr rfl
/-- who serves paper p, of the first t tellers -/
def wT (f : TW) (p : Nat) : Nat → Int32
  | 0 => (-nI 1000000)
  | t + 1 => if (opT f t && (decide (f (22 + p) = 0) || pyT f t (f (15 + p)))) && (decide (wT f p t = (-nI 1000000)) || (decide (f (22 + p) = nI 1) && decide (¬ f (41 + t) ≤ f (41 + (wT f p t).toNatClampNeg))) || (decide (¬ f (22 + p) = nI 1) && decide (¬ f (41 + (wT f p t).toNatClampNeg) ≤ f (41 + t)))) then nI t else wT f p t
theorem wT_in (f : TW) (p : Nat) : ∀ t, wT f p t = (-nI 1000000) ∨ ∃ b, b < t ∧ wT f p t = nI b := by
  intro t
  induction t with
  | zero => exact Or.inl rfl
  | succ t ih =>
    rw [wT]
    split
    · exact Or.inr ⟨t, Nat.lt_succ_self t, rfl⟩
    · rcases ih with h | ⟨b, h1, h2⟩
      · exact Or.inl h
      · exact Or.inr ⟨b, by omega, h2⟩
/-- what a teller has left behind a paper that he serves -/
def gvT (f : TW) (t p : Nat) : Int32 := if f (22 + p) = nI 1 then -costT f t (f (15 + p)) else f (15 + p)
def lfT (f : TW) (t p : Nat) : Int32 := if f (41 + t) + gvT f t p ≤ nI 99 then f (41 + t) + gvT f t p else nI 99
def takeT (f : TW) (t p : Nat) : TW := upd f (41 + t) (lfT f t p)
/-- the first leaves: k moved up -/
def mvT (f : TW) : Nat → TW
  | 0 => f
  | k + 1 => upd (mvT f k) (8 + k) (mvT f k (8 + (k + 1)))
def leaveT (f : TW) (w : Nat) : TW := upd (mvT f (w - 1)) 7 (nI (w - 1))
/-- the week's end, for the first t tellers -/
def wkT (f : TW) : Nat → TW
  | 0 => f
  | t + 1 => upd (wkT f t) (41 + t) (wkT f t (41 + t) + (if wkT f t (29 + t) = nI 5 ∧ ¬ wkT f t (33 + t) ≤ wkT f t (41 + t) then nI 1 else nI 0))
def endT (f : TW) (n : Nat) : TW := if (f 3 + nI 1) - (f 3 + nI 1) / f 2 * f 2 = 0 then wkT (upd f 3 (f 3 + nI 1)) n else upd f 3 (f 3 + nI 1)
theorem m_has (x k : Int32) (I : II) (Q : Int32 → II → Prop) : wp_X8_has x k I Q = Q (i1 (hasB x k)) I := by
  unfold wp_X8_has
  rw [hasB_r]
  cases hasB x k <;> simp [i1]
section TOWN
variable {I : II} {b : Nat} {f : TW}
theorem m_cost27 {Q : Int32 → II → Prop} {t : Nat} {s v : Int32} (hb : b ≤ 1323) (ht : t < 4) (hv : v = cA f t s) : wp_X8_costOf_27 Q (nI b) (nI t) s v (pT I b f) = Q (costT f t s) (pT I b f) := by
  unfold wp_X8_costOf_27
  have h1 : b + (29 + t) < 1372 := by omega
  simp (disch := omega) only [nI_add, Nat.add_assoc, nIvp, nIcl, pT_get, h1, true_and, costT, hv]
  generalize f (29 + t) = x
  have d1 : ¬ (nI 1 : Int32) = nI 2 := by decide
  have d2 : ¬ (nI 1 : Int32) = nI 3 := by decide
  have d3 : ¬ (nI 1 : Int32) = nI 4 := by decide
  have d4 : ¬ (nI 2 : Int32) = nI 1 := by decide
  have d5 : ¬ (nI 2 : Int32) = nI 3 := by decide
  have d6 : ¬ (nI 2 : Int32) = nI 4 := by decide
  have d7 : ¬ (nI 3 : Int32) = nI 1 := by decide
  have d8 : ¬ (nI 3 : Int32) = nI 2 := by decide
  have d9 : ¬ (nI 3 : Int32) = nI 4 := by decide
  have da : ¬ (nI 4 : Int32) = nI 1 := by decide
  have db : ¬ (nI 4 : Int32) = nI 2 := by decide
  have dc : ¬ (nI 4 : Int32) = nI 3 := by decide
  have dz : ¬ (nI 2 : Int32) = 0 := by decide
  by_cases c1 : x = nI 1
  · subst c1; simp [d1, d2, d3]
  · by_cases c2 : x = nI 2
    · subst c2; simp [d4, d5, d6, dz]
    · by_cases c3 : x = nI 3
      · subst c3; simp [d7, d8, d9]
      · by_cases c4 : x = nI 4
        · subst c4; simp [da, db, dc]
        · simp only [c1, c2, c3, c4, if_false, false_implies, true_and, not_false_eq_true, true_implies]
          by_cases c5 : s ≤ nI 9 <;> simp [c5]
theorem m_costOf {Q : Int32 → II → Prop} {t : Nat} {s : Int32} (hb : b ≤ 1323) (ht : t < 4) : wp_X8_costOf (nI b) (nI t) s (pT I b f) Q = Q (costT f t s) (pT I b f) := by
  unfold wp_X8_costOf
  have h1 : b + (37 + t) < 1372 := by omega
  simp (disch := omega) only [nI_add, Nat.add_assoc, nIvp, nIcl, pT_get, h1, true_and]
  by_cases c : nI 1 ≤ s - f (37 + t)
  · simp only [c, true_implies, not_true_eq_false, false_implies, and_true]
    exact m_cost27 hb ht (by rw [cA, if_pos c])
  · simp only [c, true_implies, not_false_eq_true, false_implies, true_and]
    exact m_cost27 hb ht (by rw [cA, if_neg c])
theorem m_mayPay {Q : Int32 → II → Prop} {t : Nat} {s : Int32} (hb : b ≤ 1323) (ht : t < 4) : wp_X8_mayPay (nI b) (nI t) s (pT I b f) Q = Q (i1 (pyT f t s)) (pT I b f) := by
  unfold wp_X8_mayPay
  have h1 : b + (41 + t) < 1372 := by omega
  have h2 : b + 1 < 1372 := by omega
  simp (disch := omega) only [nI_add, Nat.add_assoc, nIvp, nIcl, pT_get, h1, h2, true_and, m_costOf, pyT_r]
  cases pyT f t s <;> simp [i1]
set_option maxHeartbeats 4000000 in
theorem m_who_loop {Q : Int32 → II → Prop} {k : Int32 → II → Prop} {n p : Nat} (hb : b ≤ 1323) (hn : f 0 = nI n) (hn4 : n ≤ 4) (hp : p < 7) (hk : k (wT f p n) (pT I b f)) : ∀ (d t : Nat), t + d = n → ∃ N, wp_X8_whoServes_19 Q k N (nI b) (nI p) (f (15 + p)) (wT f p t) (nI t) (pT I b f) := by
  intro d
  induction d with
  | zero =>
    intro t ht
    refine ⟨1, ?_⟩
    rw [wp_X8_whoServes_19.eq_2]
    have e : t = n := by omega
    subst e
    simp (disch := omega) only [nI_add, Nat.add_assoc, nIvp, nIcl, pT_get, hn, nIle]
    exact ⟨by omega, fun c => hk, fun c => absurd (Nat.le_refl _) c⟩
  | succ d ih =>
    intro t ht
    obtain ⟨N, hN⟩ := ih (t + 1) (by omega)
    refine ⟨N + 1, ?_⟩
    rw [wp_X8_whoServes_19.eq_2]
    simp only [wp_X8_whoServes_78, wp_X8_whoServes_74, wp_X8_whoServes_79, wp_X8_whoServes_160, wp_X8_whoServes_164, wp_X8_whoServes_165, wp_X8_whoServes_182, wp_X8_whoServes_184]
    have h0 : ¬ n ≤ t := by omega
    have e10 : ¬ (nI 1 : Int32) = 0 := by decide
    have e01 : ¬ (0 : Int32) = nI 1 := by decide
    have e00 : (nI 0 : Int32) = 0 := rfl
    have g0 : b + 0 < 1372 := by omega
    have g6 : b + 6 < 1372 := by omega
    have g22 : b + (22 + p) < 1372 := by omega
    have g41 : b + (41 + t) < 1372 := by omega
    have hbest := wT_in f p t
    rw [wT] at hN
    generalize wT f p t = w0 at hN hbest
    rcases hbest with e | ⟨b0, hb0, e⟩
    · subst e
      simp (disch := omega) only [nI_add, Nat.add_assoc, nIvp, nIcl, pT_get, hn, nIle, h0, m_has, m_mayPay, opT_r, i1_0, g0, g6, g22, true_and, false_implies, not_false_eq_true, true_implies, not_true_eq_false, and_true] at hN ⊢
      simp only [e10, e00, false_implies, not_false_eq_true, true_implies, not_true_eq_false, and_true, true_and] at hN ⊢
      cases hA : opT f t <;> by_cases hB : f (22 + p) = 0 <;> cases hC : pyT f t (f (15 + p)) <;> simp [hA, hB, hC] at hN ⊢ <;> exact hN
    · subst e
      have g4b : b + (41 + b0) < 1372 := by omega
      simp (disch := omega) only [nI_add, Nat.add_assoc, nIvp, nIcl, pT_get, hn, nIle, h0, m_has, m_mayPay, opT_r, i1_0, g0, g6, g22, g41, g4b, true_and, false_implies, not_false_eq_true, true_implies, not_true_eq_false, and_true, nIneg] at hN ⊢
      simp only [e10, e00, false_implies, not_false_eq_true, true_implies, not_true_eq_false, and_true, true_and] at hN ⊢
      cases hA : opT f t <;> by_cases hB : f (22 + p) = 0 <;> cases hC : pyT f t (f (15 + p)) <;> by_cases hD : f (22 + p) = nI 1 <;> by_cases hE : f (41 + t) ≤ f (41 + b0) <;> by_cases hF : f (41 + b0) ≤ f (41 + t) <;> first | exact absurd (hB.symm.trans hD) e01 | (simp [hA, hB, hC, hD, hE, hF, e01, e10] at hN ⊢; exact hN)
theorem m_who {Q : Int32 → II → Prop} {n p : Nat} (hb : b ≤ 1323) (hn : f 0 = nI n) (hn4 : n ≤ 4) (hp : p < 7) (h : Q (wT f p n) (pT I b f)) : wp_X8_whoServes (nI b) (nI p) (pT I b f) Q := by
  unfold wp_X8_whoServes
  have h1 : b + (15 + p) < 1372 := by omega
  simp (disch := omega) only [nI_add, Nat.add_assoc, nIvp, nIcl, pT_get, h1, true_and]
  exact m_who_loop (k := fun x4 I => Q x4 I) hb hn hn4 hp h n 0 (by omega)
theorem m_takeFrom {Q : II → Prop} {t p : Nat} (hb : b ≤ 1323) (ht : t < 4) (hp : p < 7) : wp_X8_takeFrom (nI b) (nI t) (nI p) (pT I b f) Q = Q (pT I b (takeT f t p)) := by
  unfold wp_X8_takeFrom wp_X8_takeFrom_53
  have h1 : b + (15 + p) < 1372 := by omega
  have h2 : b + (41 + t) < 1372 := by omega
  have h3 : b + (22 + p) < 1372 := by omega
  simp (disch := omega) only [nI_add, Nat.add_assoc, nIvp, nIcl, pT_get, h1, h2, h3, true_and, m_costOf, forall_eq, pT_set, takeT, lfT, gvT]
  by_cases hD : f (22 + p) = nI 1
  · simp only [hD, if_true, not_true_eq_false, false_implies, true_and, true_implies]
    by_cases hE : f (41 + t) + -costT f t (f (15 + p)) ≤ nI 99 <;> simp [hE]
  · simp only [hD, if_false, not_false_eq_true, false_implies, and_true, true_implies]
    by_cases hE : f (41 + t) + f (15 + p) ≤ nI 99 <;> simp [hE]
theorem mvT_oth (f : TW) : ∀ (k q : Nat), (q < 8 ∨ 8 + k ≤ q) → mvT f k q = f q := by
  intro k
  induction k with
  | zero => intro q _; rfl
  | succ k ih => intro q h; rw [mvT, upd_ne (by omega)]; exact ih q (by omega)
theorem mvT_in (f : TW) : ∀ (k q : Nat), q < k → mvT f k (8 + q) = f (8 + (q + 1)) := by
  intro k
  induction k with
  | zero => intro q h; exact absurd h (by omega)
  | succ k ih =>
    intro q h
    rw [mvT]
    by_cases hq : q = k
    · subst hq; rw [upd_eq]; exact mvT_oth f q _ (by omega)
    · rw [upd_ne (by omega)]; exact ih q (by omega)
theorem m_lf_loop {Q : II → Prop} {k : Int32 → II → Prop} {w : Nat} (hb : b ≤ 1323) (hw : f 7 = nI w) (hw7 : w ≤ 7) (hw0 : 0 < w) (hk : k (nI b) (pT I b (mvT f (w - 1)))) : ∀ (d t : Nat), t + 1 + d = w → ∃ N, wp_X8_leaveFirst_2 Q k N (nI b) (nI (t + 1)) (pT I b (mvT f t)) := by
  intro d
  induction d with
  | zero =>
    intro t ht
    refine ⟨1, ?_⟩
    rw [wp_X8_leaveFirst_2.eq_2]
    have e : t = w - 1 := by omega
    have e2 : mvT f t 7 = nI w := by rw [mvT_oth f t 7 (by omega), hw]
    have c : w ≤ t + 1 := by omega
    simp (disch := omega) only [nI_add, Nat.add_assoc, nIvp, nIcl, pT_get, e2, nIle, c, true_implies, not_true_eq_false, false_implies, and_true]
    rw [e]
    exact ⟨by omega, hk⟩
  | succ d ih =>
    intro t ht
    obtain ⟨N, hN⟩ := ih (t + 1) (by omega)
    refine ⟨N + 1, ?_⟩
    rw [wp_X8_leaveFirst_2.eq_2]
    have e2 : mvT f t 7 = nI w := by rw [mvT_oth f t 7 (by omega), hw]
    have c : ¬ w ≤ t + 1 := by omega
    have e3 : nI (b + (8 + (t + 1))) - nI 1 = nI (b + (8 + t)) := by rw [nIsub (by omega)]; congr 1
    simp (disch := omega) only [nI_add, Nat.add_assoc, nIvp, nIcl, pT_get, e2, nIle, c, true_implies, not_false_eq_true, false_implies, true_and, e3, forall_eq, pT_set]
    exact ⟨by omega, by omega, by omega, hN⟩
theorem m_leaveFirst {Q : II → Prop} {w : Nat} (hb : b ≤ 1323) (hw : f 7 = nI w) (hw7 : w ≤ 7) (hw0 : 0 < w) (h : Q (pT I b (leaveT f w))) : wp_X8_leaveFirst (nI b) (pT I b f) Q := by
  unfold wp_X8_leaveFirst
  refine m_lf_loop hb hw hw7 hw0 ?_ (w - 1) 0 (by omega)
  have e2 : mvT f (w - 1) 7 = nI w := by rw [mvT_oth f _ 7 (by omega), hw]
  have e3 : nI w - nI 1 = nI (w - 1) := nIsub hw0
  simp (disch := omega) only [nI_add, Nat.add_assoc, nIvp, nIcl, pT_get, e2, e3, forall_eq, pT_set]
  exact ⟨by omega, by omega, h⟩
theorem wkT_oth (f : TW) : ∀ (k q : Nat), (q < 41 ∨ 41 + k ≤ q) → wkT f k q = f q := by
  intro k
  induction k with
  | zero => intro q _; rfl
  | succ k ih => intro q h; rw [wkT, upd_ne (by omega)]; exact ih q (by omega)
theorem m_wk_loop {Q : Int32 → II → Prop} {k : Int32 → II → Prop} {n : Nat} {r : Int32} (hb : b ≤ 1323) (hn : f 0 = nI n) (hn4 : n ≤ 4) (hz : ¬ f 2 = 0) (hc : f 3 - f 3 / f 2 * f 2 = 0) (hk : k r (pT I b (wkT f n))) : ∀ (d t : Nat), t + d = n → ∃ N, wp_X8_pass_106 Q k N (nI b) r (nI t) (pT I b (wkT f t)) := by
  intro d
  induction d with
  | zero =>
    intro t ht
    refine ⟨1, ?_⟩
    rw [wp_X8_pass_106.eq_2]
    have e : t = n := by omega
    subst e
    have e2 : wkT f t 0 = nI t := by rw [wkT_oth f t 0 (by omega), hn]
    simp (disch := omega) only [nI_add, Nat.add_assoc, nIvp, nIcl, pT_get, e2, nIle, Nat.le_refl, true_implies, not_true_eq_false, false_implies, and_true]
    exact ⟨by omega, hk⟩
  | succ d ih =>
    intro t ht
    obtain ⟨N, hN⟩ := ih (t + 1) (by omega)
    refine ⟨N + 1, ?_⟩
    rw [wp_X8_pass_106.eq_2]
    simp only [wp_X8_pass_194, wp_X8_pass_195]
    have e2 : wkT f t 0 = nI n := by rw [wkT_oth f t 0 (by omega), hn]
    have e3 : wkT f t 3 = f 3 := wkT_oth f t 3 (by omega)
    have e4 : wkT f t 2 = f 2 := wkT_oth f t 2 (by omega)
    have c : ¬ n ≤ t := by omega
    rw [wkT] at hN
    have g41 : b + (41 + t) < 1372 := by omega
    have g29 : b + (29 + t) < 1372 := by omega
    have g33 : b + (33 + t) < 1372 := by omega
    have g0 : b + 0 < 1372 := by omega
    have g2 : b + 2 < 1372 := by omega
    have g3 : b + 3 < 1372 := by omega
    simp (disch := omega) only [nI_add, Nat.add_assoc, nIvp, nIcl, pT_get, e2, e3, e4, nIle, c, hz, hc, true_implies, not_true_eq_false, not_false_eq_true, false_implies, true_and, forall_eq, pT_set, g41, g29, g33, g0, g2, g3]
    by_cases h5 : wkT f t (29 + t) = nI 5 <;> by_cases h6 : wkT f t (33 + t) ≤ wkT f t (41 + t) <;> simp [h5, h6] at hN ⊢ <;> exact hN
theorem m_pass92 {Q : Int32 → II → Prop} {n : Nat} {r : Int32} (hb : b ≤ 1323) (hn : f 0 = nI n) (hn4 : n ≤ 4) (hz : 0 < n → ¬ f 2 = 0) (h : Q r (pT I b (if n = 0 then upd f 3 (f 3 + nI 1) else endT f n))) : wp_X8_pass_92 Q (nI b) r (pT I b f) := by
  unfold wp_X8_pass_92
  simp (disch := omega) only [nI_add, Nat.add_assoc, nIvp, nIcl, pT_get, forall_eq, pT_set]
  refine ⟨by omega, by omega, ?_⟩
  have e0 : upd f 3 (f 3 + nI 1) 0 = nI n := by rw [upd_ne (by omega), hn]
  have e2 : upd f 3 (f 3 + nI 1) 2 = f 2 := upd_ne (by omega)
  have e3 : upd f 3 (f 3 + nI 1) 3 = f 3 + nI 1 := upd_eq _ _ _
  by_cases h0 : n = 0
  · subst h0
    rw [if_pos rfl] at h
    refine ⟨1, ?_⟩
    rw [wp_X8_pass_106.eq_2]
    simp (disch := omega) only [nI_add, Nat.add_assoc, nIvp, nIcl, pT_get, e0, nIle, Nat.le_refl, true_implies, not_true_eq_false, false_implies, and_true]
    exact ⟨by omega, h⟩
  · rw [if_neg h0] at h
    have hz := hz (by omega)
    by_cases hc : (f 3 + nI 1) - (f 3 + nI 1) / f 2 * f 2 = 0
    · rw [endT, if_pos hc] at h
      exact m_wk_loop (f := upd f 3 (f 3 + nI 1)) (k := fun x2 I => Q x2 I) hb e0 hn4 (by rw [e2]; exact hz) (by rw [e2, e3]; exact hc) h n 0 (by omega)
    · rw [endT, if_neg hc] at h
      refine ⟨1, ?_⟩
      rw [wp_X8_pass_106.eq_2]
      have c : ¬ n ≤ 0 := by omega
      simp (disch := omega) only [nI_add, Nat.add_assoc, nIvp, nIcl, pT_get, e0, e2, e3, nIle, c, hz, hc, true_implies, not_false_eq_true, false_implies, true_and, and_true]
      exact ⟨by omega, by omega, by omega, h⟩
end TOWN

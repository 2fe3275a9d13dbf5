/-! ===== pure: numbers ===== -/
theorem nIle {a b : Nat} (ha : a < 2147483648) (hb : b < 2147483648) : (nI a ≤ nI b) = (a ≤ b) := propext (nI_leI ha hb)
theorem nIlt {a b : Nat} (ha : a < 2147483648) (hb : b < 2147483648) : (nI a < nI b) = (a < b) := propext (nI_ltI ha hb)
theorem nIeq {a b : Nat} (ha : a < 2147483648) (hb : b < 2147483648) : (nI a = nI b) = (a = b) := propext (nI_eq ha hb)
theorem nIcl {a : Nat} (ha : a < 2147483648) : (nI a).toNatClampNeg = a := nI_clamp ha
theorem nIsub {a b : Nat} (h : b ≤ a) : nI a - nI b = nI (a - b) := pk_sub h
theorem nIvp {a n : Nat} (ha : a < 2147483648) (hn : n < 2147483648) : vp_in (nI a) n = (a < n) := by
  apply propext
  constructor
  · intro h
    have := vi_lt h
    rwa [nI_clamp ha] at this
  · intro h; exact vp_in_nI h hn
theorem nIneg {a b : Nat} (ha : a < 2147483648) (hb : 0 < b) (hb2 : b < 2147483648) : (nI a = -nI b) = False := by
  apply eq_false
  intro h
  have h1 := congrArg Int32.toInt h
  rw [nI_toInt ha, sb_negT hb2] at h1
  omega
theorem nInegle {a b : Nat} (ha : a < 2147483648) (hb : 0 < b) (hb2 : b < 2147483648) : (nI a ≤ -nI b) = False := by
  apply eq_false
  intro h
  have h1 := Int32.le_iff_toInt_le.mp h
  rw [nI_toInt ha, sb_negT hb2] at h1
  omega
/-- any int is below 0, or a number, at most 2^31 - 1 -/
theorem i32_cases (x : Int32) : x < 0 ∨ ∃ n : Nat, n < 2147483648 ∧ x = nI n := by
  by_cases h : x < 0
  · exact Or.inl h
  · exact Or.inr (nI_of h)
theorem neg_not {x : Int32} (h : x < 0) {n : Nat} (hn : n < 2147483648) : ¬ nI n ≤ x := by
  intro h2
  have h1 := Int32.lt_iff_toInt_lt.mp h
  have h3 := Int32.le_iff_toInt_le.mp h2
  rw [nI_toInt hn] at h3
  have : (0 : Int32).toInt = 0 := rfl
  omega
theorem neg_lt {x : Int32} (h : x < 0) {n : Nat} (hn : n < 2147483648) : x < nI n := by
  have h1 := Int32.lt_iff_toInt_lt.mp h
  apply Int32.lt_iff_toInt_lt.mpr
  rw [nI_toInt hn]
  have : (0 : Int32).toInt = 0 := rfl
  omega
theorem neg_vp {x : Int32} (h : x < 0) (n : Nat) : ¬ vp_in x n := fun q => q (Or.inl h)
theorem lg_lt (x y : Int64) : (lg_cmp x y < 0) = (x < y) := by
  apply propext
  unfold lg_cmp
  by_cases h : x > y
  · rw [if_pos h]
    have h2 := Int64.lt_iff_toInt_lt.mp h
    constructor
    · intro q; exact absurd q (by decide)
    · intro q; have := Int64.lt_iff_toInt_lt.mp q; omega
  · rw [if_neg h]
    by_cases h3 : x = y
    · rw [if_pos h3]
      constructor
      · intro q; exact absurd q (by decide)
      · intro q; rw [h3] at q; have := Int64.lt_iff_toInt_lt.mp q; omega
    · rw [if_neg h3]
      constructor
      · intro _
        apply Int64.lt_iff_toInt_lt.mpr
        have a1 : ¬ y.toInt < x.toInt := fun q => h (Int64.lt_iff_toInt_lt.mpr q)
        have a2 : x.toInt ≠ y.toInt := fun q => h3 (Int64.toInt_inj.mp q)
        omega
      · intro _; decide
theorem lg_gt (x y : Int64) : (0 < lg_cmp x y) = (y < x) := by
  apply propext
  unfold lg_cmp
  by_cases h : x > y
  · rw [if_pos h]
    exact ⟨fun _ => h, fun _ => by decide⟩
  · rw [if_neg h]
    by_cases h3 : x = y
    · rw [if_pos h3]
      exact ⟨fun q => absurd q (by decide), fun q => absurd q h⟩
    · rw [if_neg h3]
      exact ⟨fun q => absurd q (by decide), fun q => absurd q h⟩
theorem i64_lt (x y : Int32) : (x.toInt64 < y.toInt64) = (x < y) := by
  apply propext
  rw [Int64.lt_iff_toInt_lt, Int32.lt_iff_toInt_lt, Int32.toInt_toInt64, Int32.toInt_toInt64]
theorem i64_nI {n : Nat} (h : n < 2147483648) : lN n = (nI n).toInt64 := (nI_l h).symm
/-- the reference's 'in', of ints -/
theorem m_in {x lo hi : Int32} {I : II} {Q : Int32 → II → Prop} (h : Q (if lo ≤ x ∧ x ≤ hi then 1 else 0) I) : wp_X8_in x.toInt64 lo.toInt64 hi.toInt64 I Q := by
  unfold wp_X8_in
  rw [lg_lt, lg_gt, i64_lt, i64_lt]
  have le : ∀ a b : Int32, ¬ a < b ↔ b ≤ a := fun a b => by rw [Int32.lt_iff_toInt_lt, Int32.le_iff_toInt_le]; omega
  refine ⟨fun c => ?_, fun c => ⟨fun d => ?_, fun d => ?_⟩⟩
  · rw [if_neg (fun q => (le x lo).mpr q.1 c)] at h; exact h
  · rw [if_neg (fun q => (le hi x).mpr q.2 d)] at h; exact h
  · rw [if_pos ⟨(le x lo).mp c, (le hi x).mp d⟩] at h; exact h
theorem m_inN {x : Int32} {a b : Nat} {I : II} {Q : Int32 → II → Prop} (ha : a < 2147483648) (hb : b < 2147483648) (h : Q (if nI a ≤ x ∧ x ≤ nI b then 1 else 0) I) : wp_X8_in x.toInt64 (lN a) (lN b) I Q := by
  rw [i64_nI ha, i64_nI hb]
  exact m_in h
theorem nIle0 {a : Nat} (ha : a < 2147483648) : (nI a ≤ 0) = (a = 0) := by
  have h := nIle (b := 0) ha (by omega)
  rw [nI_0] at h
  rw [h]
  exact propext ⟨fun q => by omega, fun q => by omega⟩
theorem nIlt0 {a : Nat} (ha : a < 2147483648) : (nI a < 0) = False := eq_false (nI_pos ha)
theorem nI0le {a : Nat} (ha : a < 2147483648) : (0 ≤ nI a) = True := eq_true (nI_pos' ha)
theorem nI0lt {a : Nat} (ha : a < 2147483648) : (0 < nI a) = (0 < a) := by
  have h := nIlt (a := 0) (by omega) ha
  rw [nI_0] at h
  exact h
theorem nIe0 {a : Nat} (ha : a < 2147483648) : (nI a = 0) = (a = 0) := by
  have h := nIeq (b := 0) ha (by omega)
  rw [nI_0] at h
  exact h
theorem if10 {c : Prop} [Decidable c] : ((if c then (1 : Int32) else 0) = 0) = ¬ c := by
  by_cases h : c <;> simp [h]
theorem isb_if {c : Prop} [Decidable c] : isb (if c then 1 else 0) := by
  by_cases h : c
  · rw [if_pos h]; exact Or.inr rfl
  · rw [if_neg h]; exact Or.inl rfl
-- cells
theorem su_eq (I : II) (a k : Nat) (v : Int32) : su I a k v a k = v := by simp [su, va_up, upd]
theorem su_slot {I : II} {a k k' : Nat} {v : Int32} (h : k' ≠ k) : su I a k v a k' = I a k' := by simp [su, va_up, upd, h]
theorem su_cell {I : II} {a a' k : Nat} {v : Int32} (h : a' ≠ a) : su I a k v a' = I a' := by simp [su, va_up, h]
theorem su_at (I : II) (a k : Nat) (v : Int32) (a' k' : Nat) : su I a k v a' k' = if a' = a ∧ k' = k then v else I a' k' := by
  by_cases h : a' = a
  · subst h
    by_cases h2 : k' = k
    · subst h2; simp [su_eq]
    · rw [su_slot h2]; simp [h2]
  · rw [su_cell h]; simp [h]
/-- the reference's row, from b on 49 numbers -/
def pT (I : II) (b : Nat) (f : Nat → Int32) : II := fun a k => if a = 316 ∧ b ≤ k ∧ k < b + 49 then f (k - b) else I a k
def gT_ (I : II) (b : Nat) : Nat → Int32 := fun k => I 316 (b + k)
theorem pT_get {I : II} {b k : Nat} {f : Nat → Int32} (h : k < 49) : pT I b f 316 (b + k) = f k := by
  unfold pT
  rw [if_pos ⟨rfl, by omega, by omega⟩]
  congr 1
  omega
theorem pT_oth {I : II} {b a : Nat} {f : Nat → Int32} (h : a ≠ 316) : pT I b f a = I a := by
  funext k
  unfold pT
  rw [if_neg (fun q => h q.1)]
theorem pT_row {I : II} {b k : Nat} {f : Nat → Int32} (h : k < b ∨ b + 49 ≤ k) : pT I b f 316 k = I 316 k := by
  unfold pT
  rw [if_neg (fun q => by omega)]
theorem pT_set {I : II} {b k : Nat} {f : Nat → Int32} {v : Int32} (h : k < 49) : su (pT I b f) 316 (b + k) v = pT I b (upd f k v) := by
  funext a q
  rw [su_at]
  unfold pT
  by_cases ha : a = 316
  · subst ha
    by_cases hq : q = b + k
    · subst hq
      rw [if_pos ⟨rfl, rfl⟩, if_pos ⟨rfl, by omega, by omega⟩]
      simp [upd]
    · rw [if_neg (fun z => hq z.2)]
      by_cases h2 : b ≤ q ∧ q < b + 49
      · rw [if_pos ⟨rfl, h2⟩, if_pos ⟨rfl, h2⟩]
        simp only [upd]
        rw [if_neg (by omega)]
      · rw [if_neg (fun z => h2 z.2), if_neg (fun z => h2 z.2)]
  · rw [if_neg (fun z => ha z.1), if_neg (fun z => ha z.1), if_neg (fun z => ha z.1)]
theorem pT_self (I : II) (b : Nat) : pT I b (gT_ I b) = I := by
  funext a q
  unfold pT gT_
  by_cases h : a = 316 ∧ b ≤ q ∧ q < b + 49
  · rw [if_pos h]
    obtain ⟨rfl, h1, h2⟩ := h
    congr 1
    omega
  · rw [if_neg h]
theorem pT_pT (I : II) (b : Nat) (f g : Nat → Int32) : pT (pT I b f) b g = pT I b g := by
  funext a q
  unfold pT
  by_cases h : a = 316 ∧ b ≤ q ∧ q < b + 49
  · rw [if_pos h, if_pos h]
  · rw [if_neg h, if_neg h, if_neg h]
theorem pT_congr {I : II} {b : Nat} {f g : Nat → Int32} (h : ∀ k, k < 49 → f k = g k) : pT I b f = pT I b g := by
  funext a q
  unfold pT
  by_cases h2 : a = 316 ∧ b ≤ q ∧ q < b + 49
  · rw [if_pos h2, if_pos h2]; exact h _ (by omega)
  · rw [if_neg h2, if_neg h2]
theorem upd_eq (f : Nat → Int32) (k : Nat) (v : Int32) : upd f k v k = v := by simp [upd]
theorem upd_ne {f : Nat → Int32} {k k' : Nat} {v : Int32} (h : k' ≠ k) : upd f k v k' = f k' := by simp [upd, h]
/-- the first of w + 1 numbers that q's first w don't take -/
theorem pigeon : ∀ (w : Nat) (q : Nat → Nat), ∃ p, p ≤ w ∧ ∀ k, k < w → q k ≠ p := by
  intro w
  induction w with
  | zero => intro q; exact ⟨0, Nat.le_refl _, fun k h => absurd h (by omega)⟩
  | succ w ih =>
    intro q
    obtain ⟨p, hp, h⟩ := ih (fun k => if q k = w + 1 then q w else q k)
    by_cases hv : q w = p
    · refine ⟨w + 1, Nat.le_refl _, fun k hk e => ?_⟩
      by_cases hkw : k = w
      · subst hkw; omega
      · exact h k (by omega) (by simp [e, hv])
    · refine ⟨p, by omega, fun k hk e => ?_⟩
      by_cases hkw : k = w
      · subst hkw; exact hv e
      · refine h k (by omega) ?_
        have : ¬ q k = w + 1 := by omega
        show (if q k = w + 1 then q w else q k) = p
        rw [if_neg this]
        exact e

/-! ===== away ===== -/
abbrev SIML (A B : II → (Int64 → II → Prop) → Prop) : Prop := ∀ I, INV I → A I (fun r J => B J (fun r' K => r = r' ∧ INV K))
def bb (x k : Nat) : Bool := decide (x / 2 ^ k % 2 = 1)
theorem bb_h : ∀ x, x < 128 → ∀ k, k < 7 → hasB (nI x) (nI k) = bb x k := by decide +kernel
def wy (p : Nat) (b : Nat → Bool) : Nat → Nat → Nat
  | 0, _ => 1
  | d + 1, i => (if b i then p else 10 - p) * wy p b d (i + 1)
def cnB (b : Nat → Bool) : Nat → Nat → Nat
  | 0, _ => 0
  | d + 1, i => (if b i then 1 else 0) + cnB b d (i + 1)
def blS (p w : Nat) : Nat → Nat → Nat
  | 0, _ => 0
  | d + 1, x => wy p (bb x) w 0 + blS p w d (x + 1)
def abS (p w : Nat) (ok : Nat → Bool) : Nat → Nat → Nat
  | 0, _ => 0
  | d + 1, x => (if ok x then wy p (bb x) w 0 else 0) + abS p w ok d (x + 1)
theorem bl10 : ∀ p, p < 11 → ∀ w, w < 8 → blS p w (2 ^ w) 0 = 10 ^ w := by decide +kernel
theorem abS_le (p w : Nat) (ok : Nat → Bool) : ∀ d x, abS p w ok d x ≤ blS p w d x := by
  intro d
  induction d with
  | zero => intro x; exact Nat.le_refl _
  | succ d ih =>
    intro x
    rw [abS, blS]
    have := ih (x + 1)
    split <;> omega
theorem cn_kR (f : TW) (b : Nat → Bool) : ∀ d i, (kR f b d i).length + cnB b d i = d := by
  intro d
  induction d with
  | zero => intro i; rfl
  | succ d ih =>
    intro i
    rw [kR, cnB]
    have := ih (i + 1)
    split
    · omega
    · simp only [List.length_cons]; omega
theorem wy_pow (p : Nat) (f : TW) (b : Nat → Bool) : ∀ d i, wy p b d i = p ^ (d - (kR f b d i).length) * (10 - p) ^ (kR f b d i).length := by
  intro d
  induction d with
  | zero => intro i; rfl
  | succ d ih =>
    intro i
    have hl := kR_len f b d (i + 1)
    rw [wy, kR, ih (i + 1)]
    split
    · rw [show d + 1 - (kR f b d (i + 1)).length = d - (kR f b d (i + 1)).length + 1 by omega, Nat.pow_succ, ← Nat.mul_assoc, Nat.mul_comm p]
    · rw [List.length_cons, show d + 1 - ((kR f b d (i + 1)).length + 1) = d - (kR f b d (i + 1)).length by omega, Nat.pow_succ, Nat.mul_left_comm, Nat.mul_comm (10 - p)]
theorem cn_pc : ∀ w, w < 8 → ∀ x, x < 128 → x < 2 ^ w → cnB (bb x) 7 0 = cnB (bb x) w 0 := by decide +kernel
section AWAY
variable {s : Prop} {I : II} {f : TW}
theorem m_bits7 {x : Nat} (h : x < 128) {Q : Int32 → II → Prop} (hq : Q (nI (cnB (bb x) 7 0)) I) : wp_X8_bits (nI x) I Q := by
  unfold wp_X8_bits
  refine ⟨8, ?_⟩
  have c : ∀ k : Nat, k < 7 → (¬ (nI 7 : Int32) ≤ nI k) := fun k hk => by rw [nIle (by omega) (by omega)]; omega
  rw [wp_X8_bits_4.eq_2, wp_X8_bits_4.eq_2, wp_X8_bits_4.eq_2, wp_X8_bits_4.eq_2, wp_X8_bits_4.eq_2, wp_X8_bits_4.eq_2, wp_X8_bits_4.eq_2, wp_X8_bits_4.eq_2]
  simp only [nI_add, Nat.zero_add, Nat.reduceAdd]
  refine ⟨fun z => absurd z (c 0 (by omega)), fun _ => ⟨fun z => absurd z (c 1 (by omega)), fun _ => ⟨fun z => absurd z (c 2 (by omega)), fun _ => ⟨fun z => absurd z (c 3 (by omega)), fun _ => ⟨fun z => absurd z (c 4 (by omega)), fun _ => ⟨fun z => absurd z (c 5 (by omega)), fun _ => ⟨fun z => absurd z (c 6 (by omega)), fun _ => ⟨fun _ => ?_, fun z => absurd (by decide) z⟩⟩⟩⟩⟩⟩⟩⟩
  have e : ∀ m : Nat, m < 128 → nI 0 + (nI m >>> (nI 0 &&& 31) &&& nI 1) + (nI m >>> (nI 1 &&& 31) &&& nI 1) + (nI m >>> (nI 2 &&& 31) &&& nI 1) + (nI m >>> (nI 3 &&& 31) &&& nI 1) + (nI m >>> (nI 4 &&& 31) &&& nI 1) + (nI m >>> (nI 5 &&& 31) &&& nI 1) + (nI m >>> (nI 6 &&& 31) &&& nI 1) = nI (cnB (bb m) 7 0) := by decide +kernel
  rw [e x h]
  exact hq
theorem c_pw_loop {Q : Int64 → II → Prop} {k : Int64 → II → Prop} {p n : Nat} (hp : p < 2147483648) (hn : n < 2147483648) (hk : k (lN (p ^ n)) I) : ∀ (d t : Nat), t + d = n → ∃ N, wp_X7_power_5 Q k N (nI p) (nI n) (lN (p ^ t)) (nI t) I := by
  intro d
  induction d with
  | zero =>
    intro t ht
    refine ⟨1, ?_⟩
    rw [wp_X7_power_5.eq_2]
    have c : n ≤ t := by omega
    have e : t = n := by omega
    simp (disch := omega) only [nIle, c, Bool.true_eq_false, Bool.false_eq_true, false_implies, true_implies, not_true_eq_false, not_false_eq_true, and_true, true_and]
    rw [e]; exact hk
  | succ d ih =>
    intro t ht
    obtain ⟨N, hN⟩ := ih (t + 1) (by omega)
    refine ⟨N + 1, ?_⟩
    rw [wp_X7_power_5.eq_2]
    have c : ¬ n ≤ t := by omega
    rw [nI_l (by omega), lN_mul, nI_add]
    simp (disch := omega) only [nIle, c, Bool.true_eq_false, Bool.false_eq_true, false_implies, true_implies, not_true_eq_false, not_false_eq_true, and_true, true_and]
    exact hN
theorem c_power {Q : Int64 → II → Prop} {p n : Nat} (hp : p < 2147483648) (hn : n < 2147483648) (hq : Q (lN (p ^ n)) I) : wp_X7_power (nI p) (nI n) I Q :=
  c_pw_loop (k := fun x2 I => Q x2 I) hp hn hq n 0 (by omega)
theorem gcd_st (x y : Nat) : Nat.gcd y (x % y) = Nat.gcd x y := by
  rw [Nat.gcd_comm x y, Nat.gcd_rec y x, Nat.gcd_comm]
theorem mod_half {r y : Nat} (h : r < y) (h0 : 0 < r) : 2 * (y % r) < y := by
  have h1 := Nat.mod_lt y h0
  have h2 := Nat.div_add_mod y r
  have h3 : 1 ≤ y / r := Nat.div_pos (by omega) h0
  have h4 : r * 1 ≤ r * (y / r) := Nat.mul_le_mul_left r h3
  omega
theorem c_gd_loop {Q : Int64 → II → Prop} {k : Int64 → II → Prop} {g : Nat} (hk : k (lN g) I) : ∀ (m x y t : Nat), x < 2 ^ 62 → y < 2 ^ 62 → y < 2 ^ m → t + 2 * m < 100 → Nat.gcd x y = g → ∃ N, wp_X7_greatestDivisor_9 Q k N (lN x) (lN y) (nI t) I := by
  intro m
  induction m with
  | zero =>
    intro x y t hx hy hm ht hg
    have y0 : y = 0 := by simpa using hm
    subst y0
    refine ⟨1, ?_⟩
    rw [wp_X7_greatestDivisor_9.eq_2, lcmp0 (by omega)]
    have c : ¬ 100 ≤ t := by omega
    simp (disch := omega) only [nIle, c, Bool.true_eq_false, Bool.false_eq_true, false_implies, true_implies, not_true_eq_false, not_false_eq_true, and_true, true_and]
    rw [Nat.gcd_zero_right] at hg
    rw [hg]; exact hk
  | succ m ih =>
    intro x y t hx hy hm ht hg
    have c : ¬ 100 ≤ t := by omega
    have c1 : ¬ 100 ≤ t + 1 := by omega
    by_cases y0 : y = 0
    · subst y0
      refine ⟨1, ?_⟩
      rw [wp_X7_greatestDivisor_9.eq_2, lcmp0 (by omega)]
      simp (disch := omega) only [nIle, c, Bool.true_eq_false, Bool.false_eq_true, false_implies, true_implies, not_true_eq_false, not_false_eq_true, and_true, true_and]
      rw [Nat.gcd_zero_right] at hg
      rw [hg]; exact hk
    · have rl := Nat.mod_lt x (show 0 < y by omega)
      have yn : ¬ lN y = 0 := by
        have : ¬ lN y = lN 0 := by rw [pk_lEQ (by omega) (by omega)]; exact y0
        exact this
      by_cases r0 : x % y = 0
      · refine ⟨2, ?_⟩
        rw [wp_X7_greatestDivisor_9.eq_2, lcmp0 (by omega), pk_lRem (by omega) (by omega) (by omega), wp_X7_greatestDivisor_9.eq_2, lcmp0 (by omega), nI_add]
        simp (disch := omega) only [nIle, c, c1, y0, r0, yn, Bool.true_eq_false, Bool.false_eq_true, false_implies, true_implies, not_true_eq_false, not_false_eq_true, and_true, true_and]
        have h := gcd_st x y
        rw [r0, Nat.gcd_zero_right] at h
        rw [h, hg]; exact hk
      · have hh := mod_half rl (by omega)
        have ppow : 2 ^ (m + 1) = 2 * 2 ^ m := by rw [Nat.pow_succ, Nat.mul_comm]
        obtain ⟨N, hN⟩ := ih (x % y) (y % (x % y)) (t + 2) (by omega) (by omega) (by omega) (by omega) (by rw [gcd_st, gcd_st]; exact hg)
        refine ⟨N + 2, ?_⟩
        have rn : ¬ lN (x % y) = 0 := by
          have : ¬ lN (x % y) = lN 0 := by rw [pk_lEQ (by omega) (by omega)]; exact r0
          exact this
        rw [wp_X7_greatestDivisor_9.eq_2, lcmp0 (by omega), pk_lRem (by omega) (by omega) (by omega), wp_X7_greatestDivisor_9.eq_2, lcmp0 (by omega), pk_lRem (by omega) (by omega) (by omega), nI_add, nI_add]
        simp (disch := omega) only [nIle, c, c1, y0, r0, yn, rn, Bool.true_eq_false, Bool.false_eq_true, false_implies, true_implies, not_true_eq_false, not_false_eq_true, and_true, true_and]
        exact hN
theorem m_gd_loop {Q : Int64 → II → Prop} {k : Int32 → Int64 → Int64 → Int64 → II → Prop} {g : Nat} {x2 : Int32} {x3 x5 : Int64} (hk : k x2 x3 x5 (lN g) I) : ∀ (m x y : Nat), x < 2 ^ 62 → y < 2 ^ 62 → y < 2 ^ m → Nat.gcd x y = g → ∃ N, wp_X8_away_208 Q k N x2 x3 x5 (lN x) (lN y) I := by
  intro m
  induction m with
  | zero =>
    intro x y hx hy hm hg
    have y0 : y = 0 := by simpa using hm
    subst y0
    refine ⟨1, ?_⟩
    rw [wp_X8_away_208.eq_2, lcmp0 (by omega)]
    simp only [Bool.true_eq_false, Bool.false_eq_true, false_implies, true_implies, not_true_eq_false, not_false_eq_true, and_true, true_and]
    rw [Nat.gcd_zero_right] at hg
    rw [hg]; exact hk
  | succ m ih =>
    intro x y hx hy hm hg
    by_cases y0 : y = 0
    · subst y0
      refine ⟨1, ?_⟩
      rw [wp_X8_away_208.eq_2, lcmp0 (by omega)]
      simp only [Bool.true_eq_false, Bool.false_eq_true, false_implies, true_implies, not_true_eq_false, not_false_eq_true, and_true, true_and]
      rw [Nat.gcd_zero_right] at hg
      rw [hg]; exact hk
    · have rl := Nat.mod_lt x (show 0 < y by omega)
      have yn : ¬ lN y = 0 := by
        have : ¬ lN y = lN 0 := by rw [pk_lEQ (by omega) (by omega)]; exact y0
        exact this
      by_cases r0 : x % y = 0
      · refine ⟨2, ?_⟩
        rw [wp_X8_away_208.eq_2, lcmp0 (by omega), pk_lRem (by omega) (by omega) (by omega), wp_X8_away_208.eq_2, lcmp0 (by omega)]
        simp only [y0, r0, yn, Bool.true_eq_false, Bool.false_eq_true, false_implies, true_implies, not_true_eq_false, not_false_eq_true, and_true, true_and]
        have h := gcd_st x y
        rw [r0, Nat.gcd_zero_right] at h
        rw [h, hg]; exact hk
      · have hh := mod_half rl (by omega)
        have ppow : 2 ^ (m + 1) = 2 * 2 ^ m := by rw [Nat.pow_succ, Nat.mul_comm]
        obtain ⟨N, hN⟩ := ih (x % y) (y % (x % y)) (by omega) (by omega) (by omega) (by rw [gcd_st, gcd_st]; exact hg)
        refine ⟨N + 2, ?_⟩
        have rn : ¬ lN (x % y) = 0 := by
          have : ¬ lN (x % y) = lN 0 := by rw [pk_lEQ (by omega) (by omega)]; exact r0
          exact this
        rw [wp_X8_away_208.eq_2, lcmp0 (by omega), pk_lRem (by omega) (by omega) (by omega), wp_X8_away_208.eq_2, lcmp0 (by omega), pk_lRem (by omega) (by omega) (by omega)]
        simp only [y0, r0, yn, rn, Bool.true_eq_false, Bool.false_eq_true, false_implies, true_implies, not_true_eq_false, not_false_eq_true, and_true, true_and]
        exact hN
end AWAY

/-! ===== pure: copy of a row's span ===== -/
/-- cell 320 with n numbers from S on come to D; b: from the last on; t of them done -/
def cpI (I : II) (S D n : Nat) (b : Bool) (t : Nat) : II := fun a k => if a = 320 ∧ (if b then D + n - t ≤ k ∧ k < D + n else D ≤ k ∧ k < D + t) then I 320 (S + (k - D)) else I a k
theorem m_cp_loop {Q : Int32 → II → Prop} {k : Int32 → II → Prop} {I : II} {r i r' j n : Nat} {b : Bool} (hr : r < 8) (hr' : r' < 8) (hi : i + n ≤ 40) (hj : j + n ≤ 40) (hb : r = r' → (b = true → i < j) ∧ (b = false → j ≤ i)) (hk : k (nI n) (cpI I (40 * r + i) (40 * r' + j) n b n)) : ∀ (d t : Nat), t + d = n → ∃ N, wp_X8_copy_107 Q k N (nI r) (nI i) (nI r') (nI j) (nI n) (i1 b) (nI t) (cpI I (40 * r + i) (40 * r' + j) n b t) := by
  intro d
  induction d with
  | zero =>
    intro t ht
    refine ⟨1, ?_⟩
    rw [wp_X8_copy_107.eq_2]
    have e : t = n := by omega
    subst e
    simp (disch := omega) only [nIle, Nat.le_refl, Bool.true_eq_false, Bool.false_eq_true, false_implies, true_implies, not_true_eq_false, not_false_eq_true, and_true, true_and]
    exact hk
  | succ d ih =>
    intro t ht
    obtain ⟨N, hN⟩ := ih (t + 1) (by omega)
    refine ⟨N + 1, ?_⟩
    rw [wp_X8_copy_107.eq_2]
    have c : ¬ n ≤ t := by omega
    have ix : ∀ (q a u : Nat), nI 40 * nI q + nI a + nI u = nI (40 * q + a + u) := fun q a u => by rw [pk_mul, nI_add, nI_add]
    have key : ∀ u : Nat, u < n → (b = false → u = t) → (b = true → u = n - 1 - t) → wp_X8_copy_131 Q (fun x1 x2 x3 x4 x5 x6 x7 I => wp_X8_copy_107 Q k N x1 x2 x3 x4 x5 x6 x7 I) (nI r) (nI i) (nI r') (nI j) (nI n) (i1 b) (nI t) (nI u) (cpI I (40 * r + i) (40 * r' + j) n b t) := by
      intro u hu u1 u2
      unfold wp_X8_copy_131
      have g1 : 40 * r + i + u < 320 := by omega
      have g2 : 40 * r' + j + u < 320 := by omega
      simp (disch := omega) only [ix, nIvp, nIcl, g1, g2, Bool.true_eq_false, Bool.false_eq_true, false_implies, true_implies, not_true_eq_false, not_false_eq_true, and_true, true_and, forall_eq, nI_add]
      have e1 : cpI I (40 * r + i) (40 * r' + j) n b t 320 (40 * r + i + u) = I 320 (40 * r + i + u) := by
        unfold cpI
        rw [if_neg]
        intro z
        cases hbb : b with
        | false =>
          rw [hbb] at z
          simp only [Bool.false_eq_true, if_false, true_and] at z
          have u1 := u1 hbb
          by_cases er : r = r'
          · have := (hb er).2 hbb; subst er; omega
          · omega
        | true =>
          rw [hbb] at z
          simp only [if_true, true_and] at z
          have u2 := u2 hbb
          by_cases er : r = r'
          · have := (hb er).1 hbb; subst er; omega
          · omega
      rw [e1]
      have e2 : su (cpI I (40 * r + i) (40 * r' + j) n b t) 320 (40 * r' + j + u) (I 320 (40 * r + i + u)) = cpI I (40 * r + i) (40 * r' + j) n b (t + 1) := by
        funext a q
        rw [su_at]
        unfold cpI
        by_cases ha : a = 320
        · subst ha
          cases hbb : b with
          | false =>
            have u1 := u1 hbb
            simp only [true_and, Bool.false_eq_true, if_false]
            by_cases hq : q = 40 * r' + j + u
            · subst hq
              rw [if_pos rfl, if_pos (by omega)]
              congr 1; omega
            · rw [if_neg hq]
              by_cases h2 : 40 * r' + j ≤ q ∧ q < 40 * r' + j + t
              · rw [if_pos h2, if_pos (by omega)]
              · rw [if_neg h2, if_neg (by omega)]
          | true =>
            have u2 := u2 hbb
            simp only [true_and, if_true]
            by_cases hq : q = 40 * r' + j + u
            · subst hq
              rw [if_pos rfl, if_pos (by omega)]
              congr 1; omega
            · rw [if_neg hq]
              by_cases h2 : 40 * r' + j + n - t ≤ q ∧ q < 40 * r' + j + n
              · rw [if_pos h2, if_pos (by omega)]
              · rw [if_neg h2, if_neg (by omega)]
        · simp [ha]
      rw [e2]
      exact hN
    have em : nI n - nI 1 - nI t = nI (n - 1 - t) := by rw [nIsub (by omega), nIsub (by omega)]
    simp (disch := omega) only [nIle, c, Bool.true_eq_false, Bool.false_eq_true, false_implies, true_implies, not_true_eq_false, not_false_eq_true, and_true, true_and, i1_0, em]
    cases hbb : b with
    | false =>
      rw [hbb] at key
      simp only [Bool.true_eq_false, Bool.false_eq_true, false_implies, true_implies, not_true_eq_false, not_false_eq_true, and_true, true_and]
      exact key t (by omega) (fun _ => rfl) (fun q => absurd q (by decide))
    | true =>
      rw [hbb] at key
      simp only [Bool.true_eq_false, Bool.false_eq_true, false_implies, true_implies, not_true_eq_false, not_false_eq_true, and_true, true_and]
      exact key (n - 1 - t) (by omega) (fun q => absurd q (by decide)) (fun _ => rfl)
theorem cpI_0 (I : II) (S D n : Nat) (b : Bool) : cpI I S D n b 0 = I := by
  funext a k
  unfold cpI
  cases b with
  | false => rw [if_neg (by simp)]
  | true => rw [if_neg (by simp)]
theorem cpI_n (I : II) (S D n : Nat) (b : Bool) (a k : Nat) : cpI I S D n b n a k = if a = 320 ∧ D ≤ k ∧ k < D + n then I 320 (S + (k - D)) else I a k := by
  unfold cpI
  cases b with
  | false => simp
  | true => simp only [if_true, Nat.add_sub_cancel]
set_option maxHeartbeats 1000000 in
theorem s_copy (x i y j n : Int32) : SIM (wp_X7_copy x i y j n) (wp_X8_copy x i y j n) := by
  intro I v
  have n0 : (nI 0 : Int32) = 0 := rfl
  have bad : (inB 0 7 x = false ∨ inB 0 7 y = false) → wp_X8_copy x i y j n I (fun r' K => -nI 1000001 = r' ∧ INV K) := by
    intro hb
    unfold wp_X8_copy
    rw [m_isRow, i1_0]
    refine ⟨fun _ => ⟨rfl, v⟩, fun c => ?_⟩
    rw [m_isRow, i1_0]
    refine ⟨fun d => ?_, fun _ => ⟨rfl, v⟩⟩
    rcases hb with hb | hb
    · exact absurd hb c
    · exact absurd hb d
  unfold wp_X7_copy
  rw [k_isRow, i1_0]
  cases hx : inB 0 7 x with
  | false => simp only [Bool.true_eq_false, Bool.false_eq_true, false_implies, true_implies, not_true_eq_false, not_false_eq_true, and_true, true_and]; exact bad (Or.inl hx)
  | true =>
  rw [k_isRow, i1_0]
  cases hy : inB 0 7 y with
  | false => simp only [Bool.true_eq_false, Bool.false_eq_true, false_implies, true_implies, not_true_eq_false, not_false_eq_true, and_true, true_and]; exact bad (Or.inr hy)
  | true =>
  obtain ⟨r, -, hr, rfl⟩ := inB_of (by omega) (by omega) hx
  obtain ⟨r', -, hr', rfl⟩ := inB_of (by omega) (by omega) hy
  have r8 : r < 8 := by omega
  have r8' : r' < 8 := by omega
  have m1 := v.row.miss r8
  have m2 := v.row.miss r8'
  simp only [Bool.true_eq_false, Bool.false_eq_true, false_implies, true_implies, not_true_eq_false, not_false_eq_true, and_true, true_and, c_isMissing r8, c_isMissing r8', i1_0, wp_X7_copy_39, wp_X7_copy_99, k_found]
  -- the reference behind a finding
  have fnd : ∀ w : Int32, ∀ J, J = su I 296 8 w → ((I 298 r = (-nI 1000000) → w = nI 1) ∧ (¬ I 298 r = (-nI 1000000) → (I 298 r' = (-nI 1000000) → w = nI 1) ∧ (¬ I 298 r' = (-nI 1000000) → (¬ I 318 r = I 318 r' → w = nI 5) ∧ (I 318 r = I 318 r' → w = nI 2 ∧ ∀ z z', I 319 r = nI z → I 319 r' = nI z' → z ≤ 40 → z' ≤ 40 → (spB z i n = false ∨ spB z' j n = false))))) → wp_X8_copy (nI r) i (nI r') j n J (fun q K => -nI 1000010 - w = q ∧ INV K) := by
    intro w J hJ hw
    have j1 : ∀ a, a ≠ 296 → J a = I a := fun a ha => by rw [hJ, su_cell ha]
    unfold wp_X8_copy
    rw [m_isRow, i1_0, hx]
    simp only [Bool.true_eq_false, Bool.false_eq_true, false_implies, true_implies, not_true_eq_false, not_false_eq_true, and_true, true_and]
    rw [m_isRow, i1_0, hy]
    have eL : ∀ q : Int32, (q < 0) = ¬ 0 ≤ q := fun q => by rw [i32_le, Classical.not_not]
    simp (disch := omega) only [Bool.true_eq_false, Bool.false_eq_true, false_implies, true_implies, not_true_eq_false, not_false_eq_true, and_true, true_and, nIvp, nIcl, r8, r8', j1 319 (by omega), j1 318 (by omega), eL, m1.2, m2.2, Classical.not_not, wp_X8_copy_35, wp_X8_copy_85, m_find]
    have fin : ∀ w', w = w' → (-nI 1000010 - w = -nI 1000010 - w' ∧ INV (su J 315 10 w')) := fun w' e => by
      subst e; rw [hJ]; exact ⟨rfl, v.st _⟩
    refine ⟨fun c => fin _ (hw.1 c), fun c => ⟨fun d => ⟨fun e => ?_, fun e => fin _ (((hw.2 c).2 d).1 e)⟩, fun d => fin _ ((hw.2 c).1 d)⟩⟩
    obtain ⟨w2, hsp⟩ := ((hw.2 c).2 d).2 e
    rcases v.row r r8 with ⟨h1, -, -⟩ | ⟨z, l2, hz, hl, h1, h2, h3, h4, h5⟩
    · exact absurd h1 c
    rcases v.row r' r8' with ⟨h1', -, -⟩ | ⟨z', l2', hz', hl', h1', h2', h3', h4', h5'⟩
    · exact absurd h1' d
    have hsp := hsp z z' h4 h4' hz hz'
    rw [m_isSpan r8 hz (by rw [j1 319 (by omega)]; exact h4), i1_0]
    refine ⟨fun q => fin _ w2, fun q => ?_⟩
    rw [m_isSpan r8' hz' (by rw [j1 319 (by omega)]; exact h4'), i1_0]
    refine ⟨fun q2 => ?_, fun q => fin _ w2⟩
    rcases hsp with hsp | hsp
    · exact absurd hsp q
    · exact absurd hsp q2
  rcases v.row r r8 with ⟨h1, -, -⟩ | ⟨z, l2, hz, hl, h1, h2, h3, h4, h5⟩
  · simp only [h1, decide_true, Bool.true_eq_false, Bool.false_eq_true, false_implies, true_implies, not_true_eq_false, not_false_eq_true, and_true, true_and]
    exact fnd _ _ rfl ⟨fun _ => rfl, fun q => absurd h1 q⟩
  have e1 : ¬ nI l2 = (-nI 1000000) := by rw [nIneg (by omega) (by omega) (by omega)]; exact not_false
  rcases v.row r' r8' with ⟨h1', -, -⟩ | ⟨z', l2', hz', hl', h1', h2', h3', h4', h5'⟩
  · simp only [h1, e1, h1', decide_true, decide_false, Bool.true_eq_false, Bool.false_eq_true, false_implies, true_implies, not_true_eq_false, not_false_eq_true, and_true, true_and]
    exact fnd _ _ rfl ⟨fun q => absurd (h1.symm.trans q) e1, fun _ => ⟨fun _ => rfl, fun q => absurd h1' q⟩⟩
  have e1' : ¬ nI l2' = (-nI 1000000) := by rw [nIneg (by omega) (by omega) (by omega)]; exact not_false
  simp only [h1, e1, h1', e1', decide_false, Bool.true_eq_false, Bool.false_eq_true, false_implies, true_implies, not_true_eq_false, not_false_eq_true, and_true, true_and, wp_X4_laneOf, k_isRow, hx, hy, i1_0]
  simp (disch := omega) only [nIvp, nIcl, r8, r8', h1, h1', Bool.true_eq_false, Bool.false_eq_true, false_implies, true_implies, not_true_eq_false, not_false_eq_true, and_true, true_and]
  have q1 : ¬ I 298 r = (-nI 1000000) := by rw [h1]; exact e1
  have q2 : ¬ I 298 r' = (-nI 1000000) := by rw [h1']; exact e1'
  refine ⟨fun el => ?_, fun el => fnd _ _ rfl ⟨fun q => absurd q q1, fun _ => ⟨fun q => absurd q q2, fun _ => ⟨fun _ => rfl, fun q => absurd (by rw [← h2, ← h2']; exact q) el⟩⟩⟩⟩
  have el' : I 318 r = I 318 r' := by rw [h2, h2']; exact el
  have f2 : (spB z i n = false ∨ spB z' j n = false) → wp_X8_copy (nI r) i (nI r') j n (su I 296 8 (nI 2)) (fun q K => -nI 1000010 - nI 2 = q ∧ INV K) := fun hsp =>
    fnd _ _ rfl ⟨fun q => absurd q q1, fun _ => ⟨fun q => absurd q q2, fun _ => ⟨fun q => absurd el' q, fun _ => ⟨rfl, fun a b ha hb a40 b40 => by
      have ea : a = z := by have := ha.symm.trans h4; rw [nIeq (by omega) (by omega)] at this; exact this
      have eb : b = z' := by have := hb.symm.trans h4'; rw [nIeq (by omega) (by omega)] at this; exact this
      subst ea; subst eb; exact hsp⟩⟩⟩⟩
  rw [c_hasSpan r8 hz h3, i1_0]
  cases hs : spB z i n with
  | false => simp only [Bool.true_eq_false, Bool.false_eq_true, false_implies, true_implies, not_true_eq_false, not_false_eq_true, and_true, true_and]; exact f2 (Or.inl hs)
  | true =>
  rw [c_hasSpan r8' hz' h3', i1_0]
  cases hs' : spB z' j n with
  | false => simp only [Bool.true_eq_false, Bool.false_eq_true, false_implies, true_implies, not_true_eq_false, not_false_eq_true, and_true, true_and]; exact f2 (Or.inr hs')
  | true =>
  simp only [Bool.true_eq_false, Bool.false_eq_true, false_implies, true_implies, not_true_eq_false, not_false_eq_true, and_true, true_and, wp_X4_move, c_hasSpan r8 hz h3, c_hasSpan r8' hz' h3', i1_0, hs, hs']
  obtain ⟨a, b, rfl, rfl, hab⟩ := spB_of hz hs
  obtain ⟨a', b', rfl, eb, hab'⟩ := spB_of hz' hs'
  have eb : b' = b := by
    rcases Nat.lt_or_ge b' 2147483648 with q | q
    · rw [nIeq (by omega) q] at eb; exact eb.symm
    · omega
  subst eb
  have ix : nI r * nI 40 + nI a = nI (40 * r + a) := by rw [pk_mul, nI_add, Nat.mul_comm]
  have ix' : nI r' * nI 40 + nI a' = nI (40 * r' + a') := by rw [pk_mul, nI_add, Nat.mul_comm]
  simp (disch := omega) only [ix, ix', nIlt0, nIcl, not_false_eq_true, true_and, forall_eq, k_fine]
  refine ⟨by omega, by omega, ?_⟩
  generalize hJ : su (va_up I 300 (va_cpy (I 300) (I 300) (40 * r + a) (40 * r' + a') b')) 296 8 (nI 0) = J
  have j1 : ∀ c, c ≠ 296 → c ≠ 300 → J c = I c := fun c a1 a2 => by rw [← hJ, su_cell a1]; simp [va_up, a2]
  have j300 : ∀ k, J 300 k = if 40 * r' + a' ≤ k ∧ k < 40 * r' + a' + b' then I 300 (40 * r + a + (k - (40 * r' + a'))) else I 300 k := fun k => by rw [← hJ, su_cell (by omega)]; simp [va_up, va_cpy]
  have j296 : J 296 8 = nI 0 := by rw [← hJ, su_eq]
  unfold wp_X8_copy
  rw [m_isRow, i1_0, hx]
  simp only [Bool.true_eq_false, Bool.false_eq_true, false_implies, true_implies, not_true_eq_false, not_false_eq_true, and_true, true_and]
  rw [m_isRow, i1_0, hy]
  have eL : ∀ q : Int32, (q < 0) = ¬ 0 ≤ q := fun q => by rw [i32_le, Classical.not_not]
  have e318 : J 318 r = J 318 r' := by rw [j1 318 (by omega) (by omega)]; exact el'
  simp (disch := omega) only [Bool.true_eq_false, Bool.false_eq_true, false_implies, true_implies, not_true_eq_false, not_false_eq_true, and_true, true_and, nIvp, nIcl, r8, r8', e318, j1 319 (by omega) (by omega), eL, m1.2, m2.2, Classical.not_not, q1, q2]
  rw [m_isSpan r8 hz (by rw [j1 319 (by omega) (by omega)]; exact h4), i1_0, hs]
  simp only [Bool.true_eq_false, Bool.false_eq_true, false_implies, true_implies, not_true_eq_false, not_false_eq_true, and_true, true_and]
  rw [m_isSpan r8' hz' (by rw [j1 319 (by omega) (by omega)]; exact h4'), i1_0, hs']
  simp (disch := omega) only [Bool.true_eq_false, Bool.false_eq_true, false_implies, true_implies, not_true_eq_false, not_false_eq_true, and_true, true_and, nIle]
  have fin : ∀ bb : Bool, (r = r' → (bb = true → a < a') ∧ (bb = false → a' ≤ a)) → wp_X8_copy_102 (fun q K => nI b' = q ∧ INV K) (nI r) (nI a) (nI r') (nI a') (nI b') (i1 bb) J := by
    intro bb hbb
    unfold wp_X8_copy_102
    have key := m_cp_loop (Q := fun q K => nI b' = q ∧ INV K) (k := fun x5 I => wp_X8_well x5 I (fun r52 I51 => nI b' = r52 ∧ INV I51)) (I := J) (n := b') r8 r8' (by omega) (by omega) hbb (by
      rw [m_well]
      refine ⟨rfl, v.rw (fun c k q => ?_) (fun q hq => ?_) ?_⟩
      · rw [su2 (fun z => q (by unfold rwc; omega)), cpI_n, if_neg (fun z => q (by unfold rwc; omega)), j1 c (fun z => q (by unfold rwc; omega)) (fun z => q (by unfold rwc; omega))]
      · have g : ∀ c, c ≠ 296 → c ≠ 300 → c ≠ 315 → c ≠ 320 → su (cpI J (40 * r + a) (40 * r' + a') b' bb b') 315 10 (nI 0) c = I c := fun c a1 a2 a3 a4 => by
          rw [su_cell a3]
          funext k
          rw [cpI_n, if_neg (by omega), j1 c a1 a2]
        have g300 : ∀ k, su (cpI J (40 * r + a) (40 * r' + a') b' bb b') 315 10 (nI 0) 300 k = if 40 * r' + a' ≤ k ∧ k < 40 * r' + a' + b' then I 300 (40 * r + a + (k - (40 * r' + a'))) else I 300 k := fun k => by
          rw [su_cell (by omega), cpI_n, if_neg (by omega), j300]
        have g320 : ∀ k, su (cpI J (40 * r + a) (40 * r' + a') b' bb b') 315 10 (nI 0) 320 k = if 40 * r' + a' ≤ k ∧ k < 40 * r' + a' + b' then I 320 (40 * r + a + (k - (40 * r' + a'))) else I 320 k := fun k => by
          rw [su_cell (by omega), cpI_n, j1 320 (by omega) (by omega)]; simp
        rw [g 298 (by omega) (by omega) (by omega) (by omega), g 299 (by omega) (by omega) (by omega) (by omega), g 318 (by omega) (by omega) (by omega) (by omega), g 319 (by omega) (by omega) (by omega) (by omega)]
        rcases v.row q hq with ⟨p1, p2, p3⟩ | ⟨z2, l3, hz2, hl3, p1, p2, p3, p4, p5⟩
        · exact Or.inl ⟨p1, p2, p3⟩
        · refine Or.inr ⟨z2, l3, hz2, hl3, p1, p2, p3, p4, fun k hk => ?_⟩
          rw [g300, g320]
          split
          · rename_i hc
            have := h5 (a + (40 * q + k - (40 * r' + a'))) (by omega)
            rw [Nat.add_assoc]
            exact this
          · exact p5 k hk
      · rw [su_eq, su2 (by omega), cpI_n, if_neg (by omega), j296]) b' 0 (by omega)
    rw [cpI_0] at key
    exact key
  refine ⟨fun c => ?_, fun c => ?_⟩
  · exact fin false (fun _ => ⟨fun q => absurd q (by decide), fun _ => c⟩)
  · exact fin true (fun _ => ⟨fun _ => by omega, fun q => absurd q (by decide)⟩)

/-! ===== pure: rows ===== -/
def rwc (a k : Nat) : Prop := (298 ≤ a ∧ a ≤ 300) ∨ (318 ≤ a ∧ a ≤ 320) ∨ a = 296 ∨ (a = 315 ∧ k = 10)
theorem INV.rw {I J : II} (v : INV I) (e : ∀ a k, ¬ rwc a k → J a k = I a k) (hr : ROW J) (hm : J 296 8 = J 315 10) : INV J := by
  have ec : ∀ a, (∀ k, ¬ rwc a k) → J a = I a := fun a ha => funext fun k => e a k (ha k)
  obtain ⟨f, sz, lt, h, p, c, m, ⟨o1, o2⟩, i, r, t, ms, k⟩ := v
  refine ⟨f, sz, lt, h, p, c.fr (fun q hq => ec q (fun k z => by unfold rwc at z; omega)), m.fr p.2.2.1 (fun k hk => e 316 k (fun z => by unfold rwc at z; omega)) ⟨e _ _ (fun z => by unfold rwc at z; omega), e _ _ (fun z => by unfold rwc at z; omega)⟩, ⟨o1.fr ⟨?_, ?_⟩, o2.fr ⟨?_, ?_⟩⟩, i.fr (fun q hq => ec q (fun k z => by unfold rwc at z; omega)) (fun k h1 h2 => e 316 k (fun z => by unfold rwc at z; omega)) (fun z => by rw [e 315 1 (fun z => by unfold rwc at z; omega)]; exact z), hr, t.fr ⟨?_, ?_⟩ ⟨?_, ?_⟩, ⟨?_, hm⟩, k.fr ⟨?_, ?_⟩ ⟨?_, ?_⟩⟩
  case refine_9 => rw [e 301 5 (fun z => by unfold rwc at z; omega), e 315 9 (fun z => by unfold rwc at z; omega)]; exact ms.1
  all_goals first | exact ec _ (fun k z => by unfold rwc at z; omega) | exact e _ _ (fun z => by unfold rwc at z; omega)
theorem INV.row {I : II} (v : INV I) : ROW I := by
  obtain ⟨f, sz, lt, h, p, c, m, o, i, r, t, ms, k⟩ := v
  exact r
theorem INV.st {I : II} (v : INV I) (x : Int32) : INV (su (su I 296 8 x) 315 10 x) := by
  refine v.rw (fun a k q => ?_) (v.row.fr (fun a q => by rw [su_cell (by omega), su_cell (by omega)])) (by rw [su2 (by omega), su_eq, su_eq])
  rw [su2 (fun z => q (by unfold rwc; omega)), su2 (fun z => q (by unfold rwc; omega))]
theorem k_found (x : Int32) (I : II) (Q : Int32 → II → Prop) : wp_X7_found x I Q = Q (-nI 1000010 - x) (su I 296 8 x) := by
  unfold wp_X7_found; simp only [forall_eq]
theorem k_fine (x : Int32) (I : II) (Q : Int32 → II → Prop) : wp_X7_fine x I Q = Q x (su I 296 8 (nI 0)) := by
  unfold wp_X7_fine; simp only [forall_eq]
theorem m_find (x : Int32) (I : II) (Q : Int32 → II → Prop) : wp_X8_find x I Q = Q (-nI 1000010 - x) (su I 315 10 x) := by
  unfold wp_X8_find; simp only [forall_eq]
theorem m_well (x : Int32) (I : II) (Q : Int32 → II → Prop) : wp_X8_well x I Q = Q x (su I 315 10 (nI 0)) := by
  unfold wp_X8_well; simp only [forall_eq]
theorem m_isRow (x : Int32) (I : II) (Q : Int32 → II → Prop) : wp_X8_isRow x I Q = Q (i1 (inB 0 7 x)) I := by
  unfold wp_X8_isRow
  rw [m_inE _ _ _ _ _ (by omega) (by omega)]
  exact propext ⟨fun z => z.2, fun z => ⟨i1_b _, z⟩⟩
/-- cell c is 0 from lo on, below hi -/
def zrI (I : II) (c lo hi : Nat) : II := fun a k => if a = c ∧ lo ≤ k ∧ k < hi then nI 0 else I a k
theorem zrI_s {I : II} {c lo t : Nat} (h : lo ≤ t) : su (zrI I c lo t) c t (nI 0) = zrI I c lo (t + 1) := by
  funext a k
  rw [su_at]
  unfold zrI
  by_cases ha : a = c
  · subst ha
    by_cases hk : k = t
    · subst hk; simp [h]
    · simp only [true_and, hk, if_false]
      by_cases h2 : lo ≤ k ∧ k < t
      · rw [if_pos h2, if_pos (by omega)]
      · rw [if_neg h2, if_neg (by omega)]
  · simp [ha]
theorem zrI_0 (I : II) (c lo : Nat) : zrI I c lo lo = I := by
  funext a k
  unfold zrI
  rw [if_neg (by omega)]
theorem c_mk_loop {Q k : II → Prop} {I : II} {r n : Nat} (hr : r < 8) (hn : n ≤ 40) (hk : k (zrI I 300 (40 * r) (40 * r + n))) : ∀ (d t : Nat), t + d = n → ∃ N, wp_X4_make_35 Q k N (nI r) (nI n) (nI t) (zrI I 300 (40 * r) (40 * r + t)) := by
  intro d
  induction d with
  | zero =>
    intro t ht
    refine ⟨1, ?_⟩
    rw [wp_X4_make_35.eq_2]
    have e : t = n := by omega
    subst e
    simp (disch := omega) only [nIle, Nat.le_refl, Bool.true_eq_false, Bool.false_eq_true, false_implies, true_implies, not_true_eq_false, not_false_eq_true, and_true, true_and]
    exact hk
  | succ d ih =>
    intro t ht
    obtain ⟨N, hN⟩ := ih (t + 1) (by omega)
    refine ⟨N + 1, ?_⟩
    rw [wp_X4_make_35.eq_2]
    have c : ¬ n ≤ t := by omega
    have e : nI r * nI 40 + nI t = nI (40 * r + t) := by rw [pk_mul, nI_add, Nat.mul_comm]
    have g : 40 * r + t < 320 := by omega
    simp (disch := omega) only [nIle, c, Bool.true_eq_false, Bool.false_eq_true, false_implies, true_implies, not_true_eq_false, not_false_eq_true, and_true, true_and, e, nIvp, nIcl, g, forall_eq, zrI_s, nI_add]
    exact hN
theorem c_make {Q : II → Prop} {I : II} {r n : Nat} {l : Int32} (hr : r < 8) (hn : n ≤ 40) (hq : Q (zrI (su (su I 298 r l) 299 r (nI n)) 300 (40 * r) (40 * r + n))) : wp_X4_make (nI r) l (nI n) I Q := by
  unfold wp_X4_make
  rw [k_isRow, i1_0, inB_nI (by omega) (by omega) (by omega), decide_eq_true (by omega)]
  simp (disch := omega) only [Bool.true_eq_false, Bool.false_eq_true, false_implies, true_implies, not_true_eq_false, not_false_eq_true, and_true, true_and, nIlt0, nIle, hn, nIvp, nIcl, hr, forall_eq]
  have := c_mk_loop (Q := Q) (k := fun I => Q I) hr hn hq n 0 (by omega)
  rw [Nat.add_zero, zrI_0] at this
  exact this
theorem m_mk_loop {Q : Int32 → II → Prop} {k : Int32 → II → Prop} {I : II} {r : Nat} {x : Int32} (hr : r < 8) (hk : k x (zrI I 320 (40 * r) (40 * r + 40))) : ∀ (d t : Nat), t + d = 40 → ∃ N, wp_X8_row_55 Q k N (nI r) x (nI t) (zrI I 320 (40 * r) (40 * r + t)) := by
  intro d
  induction d with
  | zero =>
    intro t ht
    refine ⟨1, ?_⟩
    rw [wp_X8_row_55.eq_2]
    have e : t = 40 := by omega
    subst e
    simp (disch := omega) only [nIle, Nat.le_refl, Bool.true_eq_false, Bool.false_eq_true, false_implies, true_implies, not_true_eq_false, not_false_eq_true, and_true, true_and]
    exact hk
  | succ d ih =>
    intro t ht
    obtain ⟨N, hN⟩ := ih (t + 1) (by omega)
    refine ⟨N + 1, ?_⟩
    rw [wp_X8_row_55.eq_2]
    have c : ¬ 40 ≤ t := by omega
    have e : nI 40 * nI r + nI t = nI (40 * r + t) := by rw [pk_mul, nI_add]
    have g : 40 * r + t < 320 := by omega
    simp (disch := omega) only [nIle, c, Bool.true_eq_false, Bool.false_eq_true, false_implies, true_implies, not_true_eq_false, not_false_eq_true, and_true, true_and, e, nIvp, nIcl, g, forall_eq, zrI_s, nI_add]
    exact hN
theorem s_row (x l y : Int32) : SIM (wp_X7_row x l y) (wp_X8_row x l y) := by
  intro I v
  have n0 : (nI 0 : Int32) = 0 := rfl
  have mbad : ∀ J, INV J → (inB 0 7 x = false ∨ inB 0 2 l = false ∨ ¬ y ≤ nI 40) → wp_X8_row x l y J (fun r' K => -nI 1000001 = r' ∧ INV K) := by
    intro J vj hb
    unfold wp_X8_row
    rw [m_isRow, i1_0, m_inE _ _ _ _ _ (by omega) (by omega), i1_0]
    refine ⟨fun _ => ⟨rfl, vj⟩, fun c1 => ⟨fun _ => ⟨rfl, vj⟩, fun c2 => ⟨fun c3 => ?_, fun _ => ⟨rfl, vj⟩⟩⟩⟩
    rcases hb with hb | hb | hb
    · exact absurd hb c1
    · exact absurd hb c2
    · exact absurd c3 hb
  unfold wp_X7_row
  rw [k_isRow, i1_0]
  cases hx : inB 0 7 x with
  | false => simp only [Bool.true_eq_false, Bool.false_eq_true, false_implies, true_implies, not_true_eq_false, not_false_eq_true, and_true, true_and]; exact mbad I v (Or.inl hx)
  | true =>
    obtain ⟨r, -, hr, rfl⟩ := inB_of (by omega) (by omega) hx
    simp only [Bool.true_eq_false, Bool.false_eq_true, false_implies, true_implies, not_true_eq_false, not_false_eq_true, and_true, true_and]
    have hl : ∀ b, b = inB 0 2 l → ((l < 0 → b = false) ∧ (¬ l < 0 → ((nI 3 ≤ l → b = false) ∧ (¬ nI 3 ≤ l → b = true)))) := by
      intro b hb
      rcases i32_cases l with hl | ⟨n, hn, rfl⟩
      · exact ⟨fun _ => by rw [hb]; exact inB_neg (by omega) hl, fun q => absurd hl q⟩
      · rw [inB_nI (by omega) (by omega) hn] at hb
        rw [nIle (by omega) hn, hb]
        exact ⟨fun q => absurd q (nI_pos hn), fun _ => ⟨fun q => decide_eq_false (by omega), fun q => decide_eq_true (by omega)⟩⟩
    have hl := hl _ rfl
    refine ⟨fun c => mbad I v (Or.inr (Or.inl (hl.1 c))), fun c => ⟨fun d => mbad I v (Or.inr (Or.inl ((hl.2 c).1 d))), fun d => ⟨fun e => ⟨fun e0 => ?_, fun e0 => ?_⟩, fun e => mbad I v (Or.inr (Or.inr e))⟩⟩⟩
    · have hl2 := (hl.2 c).2 d
      obtain ⟨ln, -, hln, rfl⟩ := inB_of (by omega) (by omega) hl2
      rcases i32_cases y with hy | ⟨n, hn, rfl⟩
      · rw [i32_le] at e0; exact absurd hy e0
      rw [nIle hn (by omega)] at e
      refine c_make (by omega) e ?_
      rw [k_fine]
      unfold wp_X8_row
      rw [m_isRow, i1_0, hx, m_inE _ _ _ _ _ (by omega) (by omega), i1_0, hl2]
      have r8 : r < 8 := by omega
      simp (disch := omega) only [Bool.true_eq_false, Bool.false_eq_true, false_implies, true_implies, not_true_eq_false, not_false_eq_true, and_true, true_and, nIle, e, nI0le, nIvp, nIcl, r8, forall_eq]
      generalize hJ : su (zrI (su (su I 298 r (nI ln)) 299 r (nI n)) 300 (40 * r) (40 * r + n)) 296 8 (nI 0) = J
      have key := m_mk_loop (Q := fun r' K => nI n = r' ∧ INV K) (k := fun x3 I => wp_X8_well x3 I (fun r66 I65 => nI n = r66 ∧ INV I65)) (I := su (su J 318 r (nI ln)) 319 r (nI n)) (x := nI n) r8 (by
        rw [m_well]
        refine ⟨rfl, ?_⟩
        have j1 : ∀ a k, ¬ (298 ≤ a ∧ a ≤ 300) → a ≠ 296 → J a k = I a k := fun a k a1 a2 => by
          rw [← hJ, su_cell a2]
          unfold zrI
          rw [if_neg (by omega), su_cell (by omega), su_cell (by omega)]
        refine v.rw (fun a k q => ?_) (fun q hq => ?_) ?_
        · rw [su2 (fun z => q (by unfold rwc; omega))]
          unfold zrI
          rw [if_neg (fun z => q (by unfold rwc; omega)), su_cell (fun z => q (by unfold rwc; omega)), su_cell (fun z => q (by unfold rwc; omega))]
          exact j1 a k (fun z => q (by unfold rwc; omega)) (fun z => q (by unfold rwc; omega))
        · have f298 : ∀ k, su (zrI (su (su J 318 r (nI ln)) 319 r (nI n)) 320 (40 * r) (40 * r + 40)) 315 10 (nI 0) 298 k = su I 298 r (nI ln) 298 k := fun k => by
            rw [su_cell (by omega)]; unfold zrI; rw [if_neg (by omega), su_cell (by omega), su_cell (by omega), ← hJ, su_cell (by omega)]; unfold zrI; rw [if_neg (by omega), su_cell (by omega)]
          have f299 : ∀ k, su (zrI (su (su J 318 r (nI ln)) 319 r (nI n)) 320 (40 * r) (40 * r + 40)) 315 10 (nI 0) 299 k = su I 299 r (nI n) 299 k := fun k => by
            rw [su_cell (by omega)]; unfold zrI; rw [if_neg (by omega), su_cell (by omega), su_cell (by omega), ← hJ, su_cell (by omega)]; unfold zrI; rw [if_neg (by omega)]; simp [su_at]
          have f318 : ∀ k, su (zrI (su (su J 318 r (nI ln)) 319 r (nI n)) 320 (40 * r) (40 * r + 40)) 315 10 (nI 0) 318 k = su I 318 r (nI ln) 318 k := fun k => by
            rw [su_cell (by omega)]; unfold zrI; rw [if_neg (by omega), su_cell (by omega), su_at, su_at, j1 _ _ (by omega) (by omega)]
          have f319 : ∀ k, su (zrI (su (su J 318 r (nI ln)) 319 r (nI n)) 320 (40 * r) (40 * r + 40)) 315 10 (nI 0) 319 k = su I 319 r (nI n) 319 k := fun k => by
            rw [su_cell (by omega)]; unfold zrI; rw [if_neg (by omega)]; simp [su_at, j1 319 k (by omega) (by omega)]
          have f300 : ∀ k, su (zrI (su (su J 318 r (nI ln)) 319 r (nI n)) 320 (40 * r) (40 * r + 40)) 315 10 (nI 0) 300 k = if 40 * r ≤ k ∧ k < 40 * r + n then nI 0 else I 300 k := fun k => by
            rw [su_cell (by omega)]; unfold zrI; rw [if_neg (by omega), su_cell (by omega), su_cell (by omega), ← hJ, su_cell (by omega)]; unfold zrI; simp only [true_and]; rw [su_cell (by omega), su_cell (by omega)]
          have f320 : ∀ k, su (zrI (su (su J 318 r (nI ln)) 319 r (nI n)) 320 (40 * r) (40 * r + 40)) 315 10 (nI 0) 320 k = if 40 * r ≤ k ∧ k < 40 * r + 40 then nI 0 else I 320 k := fun k => by
            rw [su_cell (by omega)]; unfold zrI; simp only [true_and]; rw [su_cell (by omega), su_cell (by omega), j1 _ _ (by omega) (by omega)]
          rw [f298, f299, f318, f319]
          by_cases e : q = r
          · subst e
            refine Or.inr ⟨n, ln, by omega, by omega, su_eq _ _ _ _, su_eq _ _ _ _, su_eq _ _ _ _, su_eq _ _ _ _, fun i hi => ?_⟩
            rw [f300, f320, if_pos (by omega), if_pos (by omega)]
          · rw [su_slot e, su_slot e, su_slot e, su_slot e]
            rcases v.row q hq with ⟨h1, h2, h3⟩ | ⟨z, l2, hz, hl, h1, h2, h3, h4, h5⟩
            · exact Or.inl ⟨h1, h2, h3⟩
            · refine Or.inr ⟨z, l2, hz, hl, h1, h2, h3, h4, fun i hi => ?_⟩
              rw [f300, f320, if_neg (by omega), if_neg (by omega)]; exact h5 i hi
        · rw [su_eq, su_cell (by omega)]; unfold zrI; rw [if_neg (by omega), su_cell (by omega), su_cell (by omega), ← hJ, su_eq]) 40 0 (by omega)
      rw [Nat.add_zero, zrI_0] at key
      exact key
    · have hl2 := (hl.2 c).2 d
      rw [k_found]
      unfold wp_X8_row
      rw [m_isRow, i1_0, hx, m_inE _ _ _ _ _ (by omega) (by omega), i1_0, hl2]
      simp only [Bool.true_eq_false, Bool.false_eq_true, false_implies, true_implies, not_true_eq_false, not_false_eq_true, and_true, true_and, e, e0, m_find]
      exact v.st _
/-- a row's span, as both look at it -/
def spB (z : Nat) (i n : Int32) : Bool := decide (0 ≤ i) && decide (0 ≤ n) && decide (i.toInt + n.toInt ≤ z)
theorem spB_of {z : Nat} (hz : z ≤ 40) {i n : Int32} (h : spB z i n = true) : ∃ a b, i = nI a ∧ n = nI b ∧ a + b ≤ z := by
  simp only [spB, Bool.and_eq_true, decide_eq_true_eq] at h
  obtain ⟨⟨h1, h2⟩, h3⟩ := h
  rcases i32_cases i with hi | ⟨a, ha, rfl⟩
  · rw [i32_le] at h1; exact absurd hi h1
  · rcases i32_cases n with hn | ⟨b, hb, rfl⟩
    · rw [i32_le] at h2; exact absurd hn h2
    · rw [nI_toInt ha, nI_toInt hb] at h3
      exact ⟨a, b, rfl, rfl, by omega⟩
theorem c_hasSpan {I : II} {r z : Nat} (hr : r < 8) (hz : z ≤ 40) (e : I 299 r = nI z) (i n : Int32) (Q : Int32 → II → Prop) : wp_X4_hasSpan (nI r) i n I Q = Q (i1 (spB z i n)) I := by
  unfold wp_X4_hasSpan
  rw [k_isRow, i1_0, inB_nI (by omega) (by omega) (by omega), decide_eq_true (by omega)]
  simp (disch := omega) only [Bool.true_eq_false, Bool.false_eq_true, false_implies, true_implies, not_true_eq_false, not_false_eq_true, and_true, true_and, nIvp, nIcl, hr, e]
  rw [spB]
  have e1 : (i < 0) = ¬ 0 ≤ i := by rw [i32_le, Classical.not_not]
  have e2 : (n < 0) = ¬ 0 ≤ n := by rw [i32_le, Classical.not_not]
  rw [e1, e2]
  by_cases c1 : 0 ≤ i
  · by_cases c2 : 0 ≤ n
    · rcases i32_cases n with hn | ⟨b, hb, rfl⟩
      · rw [i32_le] at c2; exact absurd hn c2
      rcases i32_cases i with hi | ⟨a, ha, rfl⟩
      · rw [i32_le] at c1; exact absurd hi c1
      have e3 : (nI z - nI b < nI a) = ¬ ((nI a).toInt + (nI b).toInt ≤ z) := by
        apply propext
        rw [Int32.lt_iff_toInt_lt, nI_toInt ha, nI_toInt hb]
        have e4 : (nI z - nI b).toInt = (z : Int) - b := by
          rw [Int32.toInt_sub, nI_toInt (by omega), nI_toInt hb]
          apply Int.bmod_eq_of_le <;> omega
        rw [e4]
        omega
      rw [e3]
      by_cases c3 : (nI a).toInt + (nI b).toInt ≤ (z : Int) <;> simp [c1, c2, c3, i1]
    · simp [c1, c2, i1]
  · simp [c1, i1]
theorem m_isSpan {I : II} {r z : Nat} (hr : r < 8) (hz : z ≤ 40) (e : I 319 r = nI z) (i n : Int32) (Q : Int32 → II → Prop) : wp_X8_isSpan (nI r) i n I Q = Q (i1 (spB z i n)) I := by
  unfold wp_X8_isSpan
  simp (disch := omega) only [nIvp, nIcl, hr, e, Bool.true_eq_false, Bool.false_eq_true, false_implies, true_implies, not_true_eq_false, not_false_eq_true, and_true, true_and]
  rw [spB, lg_gt]
  have e1 : (i < 0) = ¬ 0 ≤ i := by rw [i32_le, Classical.not_not]
  have e2 : (n < 0) = ¬ 0 ≤ n := by rw [i32_le, Classical.not_not]
  have e3 : ((nI z).toInt64 < i.toInt64 + n.toInt64) = ¬ (i.toInt + n.toInt ≤ (z : Int)) := by
    apply propext
    rw [Int64.lt_iff_toInt_lt, Int64.toInt_add, Int32.toInt_toInt64, Int32.toInt_toInt64, Int32.toInt_toInt64, nI_toInt (by omega)]
    have a1 := Int32.le_toInt i
    have a2 := Int32.toInt_lt i
    have a3 := Int32.le_toInt n
    have a4 := Int32.toInt_lt n
    rw [Int.bmod_eq_of_le (by omega) (by omega)]
    omega
  rw [e1, e2, e3]
  by_cases c1 : 0 ≤ i <;> by_cases c2 : 0 ≤ n <;> by_cases c3 : i.toInt + n.toInt ≤ (z : Int) <;> simp [c1, c2, c3, i1]
theorem s_drop (x : Int32) : SIM (wp_X7_drop x) (wp_X8_drop x) := by
  intro I v
  unfold wp_X7_drop
  rw [k_isRow, i1_0]
  cases hx : inB 0 7 x with
  | false =>
    simp only [Bool.true_eq_false, Bool.false_eq_true, false_implies, true_implies, not_true_eq_false, not_false_eq_true, and_true, true_and]
    unfold wp_X8_drop
    rw [m_isRow, i1_0, hx]
    simp only [Bool.true_eq_false, Bool.false_eq_true, false_implies, true_implies, not_true_eq_false, not_false_eq_true, and_true, true_and]; exact v
  | true =>
    obtain ⟨r, -, hr, rfl⟩ := inB_of (by omega) (by omega) hx
    have r8 : r < 8 := by omega
    simp only [Bool.true_eq_false, Bool.false_eq_true, false_implies, true_implies, not_true_eq_false, not_false_eq_true, and_true, true_and, c_isMissing r8, i1_0]
    rcases v.row r r8 with ⟨h1, h2, h3⟩ | ⟨z, l2, hz, hl, h1, h2, h3, h4, h5⟩
    · have e0 : ¬ (0 : Int32) ≤ -nI 1 := by decide
      simp only [h1, decide_true, Bool.true_eq_false, Bool.false_eq_true, false_implies, true_implies, not_true_eq_false, not_false_eq_true, and_true, true_and, k_found]
      unfold wp_X8_drop
      rw [m_isRow, i1_0, hx]
      have e3 : su I 296 8 (nI 1) 319 r = -nI 1 := by rw [su_cell (by omega)]; exact h3
      simp (disch := omega) only [Bool.true_eq_false, Bool.false_eq_true, false_implies, true_implies, not_true_eq_false, not_false_eq_true, and_true, true_and, nIvp, nIcl, r8, e3, e0, m_find]
      exact v.st _
    · have e1 : ¬ nI l2 = (-nI 1000000) := by rw [nIneg (by omega) (by omega) (by omega)]; exact not_false
      simp only [h1, e1, decide_false, Bool.true_eq_false, Bool.false_eq_true, false_implies, true_implies, not_true_eq_false, not_false_eq_true, and_true, true_and]
      unfold wp_X4_remove
      simp (disch := omega) only [c_isMissing r8, h1, e1, decide_false, i1_0, Bool.true_eq_false, Bool.false_eq_true, false_implies, true_implies, not_true_eq_false, not_false_eq_true, and_true, true_and, nIvp, nIcl, r8, forall_eq, h3, k_fine]
      unfold wp_X8_drop
      rw [m_isRow, i1_0, hx]
      have e3 : su (su (su I 298 r (-nI 1000000)) 299 r (nI 0)) 296 8 (nI 0) 319 r = nI z := by rw [su_cell (by omega), su_cell (by omega), su_cell (by omega)]; exact h4
      simp (disch := omega) only [Bool.true_eq_false, Bool.false_eq_true, false_implies, true_implies, not_true_eq_false, not_false_eq_true, and_true, true_and, nIvp, nIcl, r8, e3, nI0le, forall_eq, m_well]
      refine v.rw (fun a k q => ?_) (fun q hq => ?_) ?_
      · rw [su2 (fun z => q (by unfold rwc; omega)), su_cell (fun z => q (by unfold rwc; omega)), su_cell (fun z => q (by unfold rwc; omega)), su_cell (fun z => q (by unfold rwc; omega)), su_cell (fun z => q (by unfold rwc; omega))]
      · by_cases e : q = r
        · subst e
          refine Or.inl ⟨?_, ?_, ?_⟩ <;> simp [su_at]
        · have g : ∀ a, a ≠ 296 → a ≠ 315 → su (su (su (su (su I 298 r (-nI 1000000)) 299 r (nI 0)) 296 8 (nI 0)) 319 r (-nI 1)) 315 10 (nI 0) a q = I a q := fun a a1 a2 => by
            simp [su_at, a1, a2, e]
          have g3 : ∀ a, a = 300 ∨ a = 320 → su (su (su (su (su I 298 r (-nI 1000000)) 299 r (nI 0)) 296 8 (nI 0)) 319 r (-nI 1)) 315 10 (nI 0) a = I a := fun a ha => by
            rw [su_cell (by omega), su_cell (by omega), su_cell (by omega), su_cell (by omega), su_cell (by omega)]
          rw [g 298 (by omega) (by omega), g 299 (by omega) (by omega), g 318 (by omega) (by omega), g 319 (by omega) (by omega), g3 300 (by omega), g3 320 (by omega)]
          exact v.row q hq
      · simp [su_at]
theorem s_set (x i y : Int32) : SIM (wp_X7_set x i y) (wp_X8_set x i y) := by
  intro I v
  unfold wp_X7_set
  rw [k_isRow, i1_0]
  cases hx : inB 0 7 x with
  | false =>
    simp only [Bool.true_eq_false, Bool.false_eq_true, false_implies, true_implies, not_true_eq_false, not_false_eq_true, and_true, true_and]
    unfold wp_X8_set
    rw [m_isRow, i1_0, hx]
    simp only [Bool.true_eq_false, Bool.false_eq_true, false_implies, true_implies, not_true_eq_false, not_false_eq_true, and_true, true_and]; exact v
  | true =>
    obtain ⟨r, -, hr, rfl⟩ := inB_of (by omega) (by omega) hx
    have r8 : r < 8 := by omega
    have n1 : ¬ (nI 1 : Int32) = 0 := by decide
    have n2 : ¬ (nI 2 : Int32) = 0 := by decide
    have n0 : (nI 0 : Int32) = 0 := rfl
    simp only [Bool.true_eq_false, Bool.false_eq_true, false_implies, true_implies, not_true_eq_false, not_false_eq_true, and_true, true_and, wp_X4_findingOf, c_isMissing r8, i1_0]
    rcases v.row r r8 with ⟨h1, h2, h3⟩ | ⟨z, l2, hz, hl, h1, h2, h3, h4, h5⟩
    · have e0 : ¬ (0 : Int32) ≤ -nI 1 := by decide
      simp only [h1, decide_true, Bool.true_eq_false, Bool.false_eq_true, false_implies, true_implies, not_true_eq_false, not_false_eq_true, and_true, true_and, n1, k_found]
      unfold wp_X8_set
      rw [m_isRow, i1_0, hx]
      have e3 : su I 296 8 (nI 1) 319 r = -nI 1 := by rw [su_cell (by omega)]; exact h3
      simp (disch := omega) only [Bool.true_eq_false, Bool.false_eq_true, false_implies, true_implies, not_true_eq_false, not_false_eq_true, and_true, true_and, nIvp, nIcl, r8, e3, e0, m_find]
      exact v.st _
    · have e1 : ¬ nI l2 = (-nI 1000000) := by rw [nIneg (by omega) (by omega) (by omega)]; exact not_false
      simp only [h1, e1, decide_false, Bool.true_eq_false, Bool.false_eq_true, false_implies, true_implies, not_true_eq_false, not_false_eq_true, and_true, true_and, c_hasSpan r8 hz h3, i1_0]
      cases hs : spB z i (nI 1) with
      | false =>
        simp only [Bool.true_eq_false, Bool.false_eq_true, false_implies, true_implies, not_true_eq_false, not_false_eq_true, and_true, true_and, n2, k_found]
        unfold wp_X8_set
        rw [m_isRow, i1_0, hx]
        have e3 : su I 296 8 (nI 2) 319 r = nI z := by rw [su_cell (by omega)]; exact h4
        simp (disch := omega) only [Bool.true_eq_false, Bool.false_eq_true, false_implies, true_implies, not_true_eq_false, not_false_eq_true, and_true, true_and, nIvp, nIcl, r8, e3, nI0le]
        have hb : i < 0 ∨ nI z ≤ i := by
          rcases i32_cases i with hi | ⟨a, ha, rfl⟩
          · exact Or.inl hi
          · refine Or.inr ?_
            rw [nIle (by omega) ha]
            have q : ¬ (a + 1 ≤ z) := fun q => by
              have : spB z (nI a) (nI 1) = true := by
                simp (disch := omega) only [spB, nI0le, nI_toInt]
                simp
                omega
              rw [hs] at this; exact absurd this (by decide)
            omega
        refine m_in_no (by omega) hb ?_
        simp only [n0, Bool.true_eq_false, Bool.false_eq_true, false_implies, true_implies, not_true_eq_false, not_false_eq_true, and_true, true_and, m_find]
        exact v.st _
      | true =>
        obtain ⟨a, b, rfl, eb, hab⟩ := spB_of hz hs
        have eb : b = 1 := by
          rcases Nat.lt_or_ge b 2147483648 with q | q
          · rw [nIeq (by omega) q] at eb; exact eb.symm
          · omega
        have a40 : a < 40 := by omega
        simp only [Bool.true_eq_false, Bool.false_eq_true, false_implies, true_implies, not_true_eq_false, not_false_eq_true, and_true, true_and, n0, wp_X4_put, wp_X4_put_45, c_hasSpan r8 hz h3, i1_0, hs]
        have ix : nI r * nI 40 + nI a = nI (40 * r + a) := by rw [pk_mul, nI_add, Nat.mul_comm]
        have ix2 : nI 40 * nI r + nI a = nI (40 * r + a) := by rw [pk_mul, nI_add]
        have g : 40 * r + a < 320 := by omega
        have key : ∀ w : Int32, w = (if l2 = 0 then y.toInt8.toInt32 else if l2 = 1 then y.toInt16.toInt32 else y) → wp_X8_set (nI r) (nI a) y (su (su I 300 (40 * r + a) w) 296 8 (nI 0)) (fun r' K => w = r' ∧ INV K) := by
          intro w hw
          unfold wp_X8_set
          rw [m_isRow, i1_0, hx]
          have e3 : su (su I 300 (40 * r + a) w) 296 8 (nI 0) 319 r = nI z := by rw [su_cell (by omega), su_cell (by omega)]; exact h4
          have e4 : su (su I 300 (40 * r + a) w) 296 8 (nI 0) 318 r = nI l2 := by rw [su_cell (by omega), su_cell (by omega)]; exact h2
          simp (disch := omega) only [Bool.true_eq_false, Bool.false_eq_true, false_implies, true_implies, not_true_eq_false, not_false_eq_true, and_true, true_and, nIvp, nIcl, r8, e3, nI0le]
          refine m_in_at (by omega) (by omega) ?_
          have hn : ∀ (J : II) (Q : Int32 → II → Prop), wp_X8_narrow y (nI l2) J Q = Q w J := by
            intro J Q
            unfold wp_X8_narrow
            rw [hw, nIe0 (by omega), nIeq (by omega) (by omega)]
            have : l2 = 0 ∨ l2 = 1 ∨ l2 = 2 := by omega
            rcases this with rfl | rfl | rfl <;> simp
          simp (disch := omega) only [n1, Bool.true_eq_false, Bool.false_eq_true, false_implies, true_implies, not_true_eq_false, not_false_eq_true, and_true, true_and, e4, hn, ix2, nIvp, nIcl, g, forall_eq, su_eq, m_well]
          refine v.rw (fun a' k q => ?_) (fun q hq => ?_) ?_
          · rw [su2 (fun z => q (by unfold rwc; omega)), su_cell (fun z => q (by unfold rwc; omega)), su_cell (fun z => q (by unfold rwc; omega)), su_cell (fun z => q (by unfold rwc; omega))]
          · have g2 : ∀ c, c ≠ 296 → c ≠ 315 → c ≠ 300 → c ≠ 320 → su (su (su (su I 300 (40 * r + a) w) 296 8 (nI 0)) 320 (40 * r + a) w) 315 10 (nI 0) c = I c := fun c a1 a2 a3 a4 => by
              rw [su_cell (by omega), su_cell (by omega), su_cell (by omega), su_cell (by omega)]
            have g3 : ∀ k, su (su (su (su I 300 (40 * r + a) w) 296 8 (nI 0)) 320 (40 * r + a) w) 315 10 (nI 0) 300 k = su I 300 (40 * r + a) w 300 k := fun k => by
              rw [su_cell (by omega), su_cell (by omega), su_cell (by omega)]
            have g4 : ∀ k, su (su (su (su I 300 (40 * r + a) w) 296 8 (nI 0)) 320 (40 * r + a) w) 315 10 (nI 0) 320 k = su I 320 (40 * r + a) w 320 k := fun k => by
              rw [su_cell (by omega)]; simp [su_at]
            rw [g2 298 (by omega) (by omega) (by omega) (by omega), g2 299 (by omega) (by omega) (by omega) (by omega), g2 318 (by omega) (by omega) (by omega) (by omega), g2 319 (by omega) (by omega) (by omega) (by omega)]
            rcases v.row q hq with ⟨p1, p2, p3⟩ | ⟨z', l', hz', hl', p1, p2, p3, p4, p5⟩
            · exact Or.inl ⟨p1, p2, p3⟩
            · refine Or.inr ⟨z', l', hz', hl', p1, p2, p3, p4, fun k hk => ?_⟩
              rw [g3, g4]
              by_cases e : 40 * q + k = 40 * r + a
              · rw [e, su_eq, su_eq]
              · rw [su_slot e, su_slot e]; exact p5 k hk
          · simp [su_at]
        have kf : ∀ w : Int32, w = (if l2 = 0 then y.toInt8.toInt32 else if l2 = 1 then y.toInt16.toInt32 else y) → (vp_in (nI r * nI 40 + nI a) 320 ∧ ∀ I2 : II, I2 = su I 300 (nI r * nI 40 + nI a).toNatClampNeg w → wp_X7_fine w I2 (fun r10 I9 => wp_X8_set (nI r) (nI a) y I9 (fun r' K => r10 = r' ∧ INV K))) := by
          intro w hw
          simp (disch := omega) only [ix, nIvp, nIcl, g, forall_eq, k_fine, Bool.true_eq_false, Bool.false_eq_true, false_implies, true_implies, not_true_eq_false, not_false_eq_true, and_true, true_and]
          exact key w hw
        simp (disch := omega) only [Bool.true_eq_false, Bool.false_eq_true, false_implies, true_implies, not_true_eq_false, not_false_eq_true, and_true, true_and, nIvp, nIcl, r8, h1, nIe0, nIeq]
        refine ⟨fun q => ⟨fun q2 => kf _ ?_, fun q2 => kf _ ?_⟩, fun q => kf _ ?_⟩
        · rw [if_neg q, if_neg q2]
        · rw [if_neg q, if_pos q2]
        · rw [if_pos q]

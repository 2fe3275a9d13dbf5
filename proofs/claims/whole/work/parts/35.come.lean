def bt (x : Int32) (i : Nat) : Bool := x.toBitVec.getLsbD i
theorem b_ext {x y : Int32} (h : ∀ i, i < 32 → bt x i = bt y i) : x = y := Int32.toBitVec_inj.mp (BitVec.eq_of_getLsbD_eq (fun i hi => h i hi))
theorem b_or (x y : Int32) (i : Nat) : bt (x ||| y) i = (bt x i || bt y i) := by unfold bt; rw [Int32.toBitVec_or, BitVec.getLsbD_or]
theorem b_and (x y : Int32) (i : Nat) : bt (x &&& y) i = (bt x i && bt y i) := by unfold bt; rw [Int32.toBitVec_and, BitVec.getLsbD_and]
theorem b_xor (x y : Int32) (i : Nat) : bt (x ^^^ y) i = (bt x i ^^ bt y i) := by unfold bt; rw [Int32.toBitVec_xor, BitVec.getLsbD_xor]
theorem b_big {x : Int32} {i : Nat} (h : 32 ≤ i) : bt x i = false := BitVec.getLsbD_of_ge _ _ h
theorem b_255 (i : Nat) : bt 255 i = decide (i < 8) := by
  rcases Nat.lt_or_ge i 32 with h | h
  · exact (by decide +kernel : ∀ i, i < 32 → bt 255 i = decide (i < 8)) i h
  · rw [b_big h, decide_eq_false (by omega)]
theorem b_65535 (i : Nat) : bt 65535 i = decide (i < 16) := by
  rcases Nat.lt_or_ge i 32 with h | h
  · exact (by decide +kernel : ∀ i, i < 32 → bt 65535 i = decide (i < 16)) i h
  · rw [b_big h, decide_eq_false (by omega)]
theorem b_m1 : ∀ i, i < 32 → bt (-1) i = true := by decide +kernel
theorem b_0 (i : Nat) : bt 0 i = false := BitVec.getLsbD_zero
theorem s_l : ∀ n, n < 32 → ((nI n &&& 31).toBitVec.smod 32).toNat = n := by decide +kernel
theorem s_u : ∀ n, n < 32 → (((nI n).toUInt32 &&& Int32.toUInt32 31).toBitVec % 32).toNat = n := by decide +kernel
theorem b_shl (n : Nat) (hn : n < 32) (x : Int32) {i : Nat} (hi : i < 32) : bt (x <<< (nI n &&& 31)) i = (decide (n ≤ i) && bt x (i - n)) := by
  unfold bt
  rw [Int32.toBitVec_shiftLeft]
  show (x.toBitVec <<< ((nI n &&& 31).toBitVec.smod 32).toNat).getLsbD i = _
  rw [s_l n hn, BitVec.getLsbD_shiftLeft]
  rcases Nat.lt_or_ge i n with h | h
  · simp [h, Nat.not_le.mpr h]
  · simp [hi, h, Nat.not_lt.mpr h]
theorem b_ushr (n : Nat) (hn : n < 32) (x : Int32) (i : Nat) : bt ((x.toUInt32 >>> ((nI n).toUInt32 &&& Int32.toUInt32 31)).toInt32) i = bt x (n + i) := by
  show (x.toUInt32 >>> ((nI n).toUInt32 &&& Int32.toUInt32 31)).toBitVec.getLsbD i = x.toUInt32.toBitVec.getLsbD (n + i)
  rw [UInt32.toBitVec_shiftRight]
  show (x.toUInt32.toBitVec >>> (((nI n).toUInt32 &&& Int32.toUInt32 31).toBitVec % 32).toNat).getLsbD i = _
  rw [s_u n hn, BitVec.getLsbD_ushiftRight]
theorem b_sshr (n : Nat) (hn : n < 32) (x : Int32) {i : Nat} (hi : i < 32) : bt (x >>> (nI n &&& 31)) i = if n + i < 32 then bt x (n + i) else bt x 31 := by
  unfold bt
  rw [Int32.toBitVec_shiftRight]
  show (x.toBitVec.sshiftRight ((nI n &&& 31).toBitVec.smod 32).toNat).getLsbD i = _
  rw [s_l n hn, BitVec.getLsbD_sshiftRight, BitVec.msb_eq_getLsbD_last]
  simp [hi]
/-! ===== pure: bits of sets; a paper comes ===== -/
theorem b_1 : ∀ i, i < 32 → bt (nI 1) i = decide (i = 0) := by decide +kernel
theorem b_n1 : ∀ i, i < 32 → bt (-nI 1) i = true := by decide +kernel
theorem b_n0 (i : Nat) : bt (nI 0) i = false := b_0 i
theorem hasB_bt {p : Nat} (hp : p < 32) (x : Int32) : hasB x (nI p) = bt x p := by
  unfold hasB
  have h0 : bt ((x >>> (nI p &&& 31)) &&& nI 1) 0 = bt x p := by
    rw [b_and, b_sshr p hp x (by omega), b_1 0 (by omega)]
    simp [hp]
  by_cases e : ((x >>> (nI p &&& 31)) &&& nI 1) = nI 1
  · rw [decide_eq_true e]
    rw [e, b_1 0 (by omega)] at h0
    simpa using h0
  · rw [decide_eq_false e]
    have e2 := bit01 e
    rw [e2, b_n0] at h0
    exact h0
theorem bt_bit {p q : Nat} (hp : p < 32) (hq : q < 32) : bt (nI 1 <<< (nI p &&& 31)) q = decide (p = q) := by
  rw [b_shl p hp _ hq]
  by_cases e : p ≤ q
  · rw [b_1 _ (by omega)]
    by_cases e2 : p = q
    · subst e2; simp
    · simp [e, e2]; omega
  · have : ¬ p = q := by omega
    simp [e, this]
def qbT (f : TW) : Nat → Int32
  | 0 => nI 0
  | k + 1 => qbT f k ||| (nI 1 <<< (f (8 + k) &&& 31))
theorem bt_qb {f : TW} (hf : WF f) {p : Nat} (hp : p < 32) : ∀ w, w ≤ tw f → bt (qbT f w) p = (List.range w).any (fun k => decide (tq f k = p)) := by
  intro w
  induction w with
  | zero => intro _; rw [qbT, b_n0]; rfl
  | succ w ih =>
    intro hw
    have q7 := (hf.q (k := w) (by omega))
    rw [qbT, b_or, ih (by omega), q7.1, bt_bit (by omega) hp, List.range_succ, List.any_append]
    simp
theorem c_qb_loop {s : Prop} {I : II} {j : Nat} {f : TW} {Q : Int32 → II → Prop} {k : Int32 → II → Prop} (h : BK s I j f) (hf : WF f) (hk : k (qbT f (tw f)) I) : ∀ (d t : Nat), t + d = tw f → ∃ N, wp_X1_queuedBits_4 j Q k N (qbT f t) (nI t) I := by
  have hw := hf.w
  intro d
  induction d with
  | zero =>
    intro t ht
    refine ⟨1, ?_⟩
    rw [wp_X1_queuedBits_4.eq_2]
    have c : tw f ≤ t := by omega
    have e : t = tw f := by omega
    simp (disch := omega) only [h.1.2.2.2.2.2.2.2, hw.1, nIle, c, Bool.true_eq_false, Bool.false_eq_true, false_implies, true_implies, not_true_eq_false, not_false_eq_true, and_true, true_and]
    rw [e]; exact hk
  | succ d ih =>
    intro t ht
    obtain ⟨N, hN⟩ := ih (t + 1) (by omega)
    refine ⟨N + 1, ?_⟩
    rw [wp_X1_queuedBits_4.eq_2]
    have c1 : ¬ tw f ≤ t := by omega
    have c2 : ¬ 7 ≤ t := by omega
    have c3 : t < 7 := by omega
    simp (disch := omega) only [h.1.2.2.2.2.2.2.2, hw.1, nIle, c1, c2, c3, Bool.true_eq_false, Bool.false_eq_true, false_implies, true_implies, not_true_eq_false, not_false_eq_true, and_true, true_and, nIvp, nIcl, h.2.2.1 t (by omega), nI_add]
    exact hN
theorem c_queuedBits {s : Prop} {I : II} {j : Nat} {f : TW} {Q : Int32 → II → Prop} (h : BK s I j f) (hf : WF f) (hq : Q (qbT f (tw f)) I) : wp_X1_queuedBits j I Q :=
  c_qb_loop (k := fun x1 I => Q x1 I) h hf hq (tw f) 0 (by omega)
def isFr (f : TW) (p : Nat) : Prop := p < 7 ∧ inQ f p = false ∧ ∀ i, i < p → inQ f i = true
theorem inQ_f {f : TW} {p : Nat} : inQ f p = false ↔ ∀ k, k < tw f → ¬ tq f k = p := by
  unfold inQ
  rw [List.any_eq_false]
  constructor
  · intro h k hk e; exact h k (List.mem_range.mpr hk) (by simp [e])
  · intro h k hk; simpa using h k (List.mem_range.mp hk)
theorem fr_ex {f : TW} (h : tw f < 7) : ∃ p, isFr f p := by
  obtain ⟨p, hp, h1⟩ := pigeon (tw f) (tq f)
  obtain ⟨q, hq, h2⟩ := pk_least (fun p => inQ f p = false) ⟨p, inQ_f.mpr h1⟩
  refine ⟨q, ?_, hq, fun i hi => by simpa using h2 i hi⟩
  rcases Nat.lt_or_ge p q with z | z
  · exact absurd (inQ_f.mpr h1) (h2 p z)
  · omega
/-- paper p comes behind the queue -/
def cT (f : TW) (d x : Int32) (p : Nat) : TW := upd (upd (upd (upd f (15 + p) x) (22 + p) d) (8 + tw f) (nI p)) 7 (nI (tw f + 1))
theorem cT_at (f : TW) (d x : Int32) (p q : Nat) : cT f d x p q = if q = 7 then nI (tw f + 1) else if q = 8 + tw f then nI p else if q = 22 + p then d else if q = 15 + p then x else f q := by
  simp only [cT, upd]
theorem cT_n {f : TW} {d x : Int32} {p : Nat} : tn (cT f d x p) = tn f := by
  rw [tn, tn, cT_at, if_neg (by omega), if_neg (by omega), if_neg (by omega), if_neg (by omega)]
theorem cT_w {f : TW} {d x : Int32} {p : Nat} (h : tw f < 7) : tw (cT f d x p) = tw f + 1 := by
  rw [tw, cT_at, if_pos rfl, nI_clamp (by omega)]
theorem cT_q {f : TW} {d x : Int32} {p : Nat} (hp : p < 7) (h : tw f < 7) {k : Nat} (hk : k ≤ tw f) : tq (cT f d x p) k = if k = tw f then p else tq f k := by
  rw [tq, cT_at, if_neg (by omega)]
  by_cases e : k = tw f
  · rw [if_pos (by omega), if_pos e, nI_clamp (by omega)]
  · rw [if_neg (by omega), if_neg (by omega), if_neg (by omega), if_neg e]; rfl
theorem WF.come {f : TW} (hf : WF f) {d p x : Nat} (hd : d ≤ 1) (hx1 : 1 ≤ x) (hx : x ≤ 30) (h : tw f < 7) (hp : isFr f p) : WF (cT f (nI d) (nI x) p) := by
  obtain ⟨p7, p1, p2⟩ := hp
  have p1 := inQ_f.mp p1
  have n4 := hf.n.2
  have at0 : ∀ q, (q < 7 ∨ 29 ≤ q) → cT f (nI d) (nI x) p q = f q := fun q hq => by rw [cT_at, if_neg (by omega), if_neg (by omega), if_neg (by omega), if_neg (by omega)]
  have a22 : ∀ q, q < 7 → cT f (nI d) (nI x) p (22 + q) = if q = p then nI d else f (22 + q) := fun q hq => by
    rw [cT_at, if_neg (by omega), if_neg (by omega)]
    by_cases e : q = p
    · rw [if_pos (by omega), if_pos e]
    · rw [if_neg (by omega), if_neg (by omega), if_neg e]
  have a15 : ∀ q, q < 7 → cT f (nI d) (nI x) p (15 + q) = if q = p then nI x else f (15 + q) := fun q hq => by
    rw [cT_at, if_neg (by omega), if_neg (by omega), if_neg (by omega)]
    by_cases e : q = p
    · rw [if_pos (by omega), if_pos e]
    · rw [if_neg (by omega), if_neg e]
  have dn : ¬ nI d = -nI 1 := by rw [nIneg (by omega) (by omega) (by omega)]; exact not_false
  refine ⟨⟨?_, ?_⟩, ⟨?_, ?_⟩, fun k hk => ?_, fun i k hi hk e => ?_, fun q hq => ?_, fun k hk => ?_, fun q hq hk => ?_, fun t ht => ?_, fun h0 => ?_⟩
  · rw [at0 0 (by omega), cT_n]; exact hf.n.1
  · rw [cT_n]; exact n4
  · rw [cT_w h, cT_at, if_pos rfl]
  · rw [cT_w h]; omega
  · rw [cT_w h] at hk
    rw [cT_q p7 h (by omega), cT_at, if_neg (by omega)]
    by_cases e : k = tw f
    · rw [if_pos (by omega), if_pos e]; exact ⟨rfl, p7⟩
    · rw [if_neg (by omega), if_neg (by omega), if_neg (by omega), if_neg e]; exact hf.q (by omega)
  · rw [cT_w h] at hi hk
    rw [cT_q p7 h (by omega), cT_q p7 h (by omega)] at e
    by_cases a : i = tw f <;> by_cases b : k = tw f
    · omega
    · rw [if_pos a, if_neg b] at e; exact absurd e.symm (p1 k (by omega))
    · rw [if_neg a, if_pos b] at e; exact absurd e (p1 i (by omega))
    · rw [if_neg a, if_neg b] at e; exact hf.dist (by omega) (by omega) e
  · rw [a22 q hq]
    by_cases e : q = p
    · rw [if_pos e]
      have : d = 0 ∨ d = 1 := by omega
      rcases this with rfl | rfl
      · exact Or.inr (Or.inl rfl)
      · exact Or.inr (Or.inr rfl)
    · rw [if_neg e]; exact hf.dr hq
  · rw [cT_w h] at hk
    rw [cT_q p7 h (by omega)]
    by_cases e : k = tw f
    · rw [if_pos e, a22 p p7, if_pos rfl]; exact dn
    · have q7 := (hf.q (k := k) (by omega)).2
      rw [if_neg e, a22 _ q7]
      by_cases e2 : tq f k = p
      · rw [if_pos e2]; exact dn
      · rw [if_neg e2]; exact hf.kn (by omega)
  · rw [a22 q hq] at hk
    rw [a15 q hq]
    by_cases e : q = p
    · rw [if_pos e]; exact ⟨x, hx1, hx, rfl⟩
    · rw [if_neg e] at hk ⊢; exact hf.sm hq hk
  · rw [cT_n] at ht
    rw [at0 _ (by omega), at0 _ (by omega), at0 _ (by omega), at0 _ (by omega)]; exact hf.te ht
  · rw [cT_n] at h0
    rw [at0 _ (by omega), at0 _ (by omega)]; exact hf.wk h0
theorem bit_0 {x : Int32} {p : Nat} : (((x >>> (nI p &&& 31)) &&& nI 1) = 0) = (hasB x (nI p) = false) := by
  unfold hasB
  by_cases e : ((x >>> (nI p &&& 31)) &&& nI 1) = nI 1
  · rw [e]; simp; decide
  · have := bit01 e
    rw [this]; simp; decide
theorem c_jn_loop {s : Prop} {I : II} {j : Nat} {f : TW} {Q : Int32 → II → Prop} {k33 : Int32 → Int32 → Int32 → II → Prop} {k115 : II → Prop} {x1 x2 : Int32} {p : Nat} (h : BK s I j f) (hf : WF f) (hw7 : tw f < 7) (hp : isFr f p) (hk : k33 x1 x2 (nI p) I) : ∀ (d t : Nat), t + d = p → ∃ N, wp_X1_join_8 j Q k33 k115 N x1 x2 (qbT f (tw f)) (nI t) I := by
  have hw := hf.w
  have p7 := hp.1
  intro d
  induction d with
  | zero =>
    intro t ht
    have e : t = p := by omega
    subst e
    refine ⟨1, ?_⟩
    rw [wp_X1_join_8.eq_2]
    have c1 : ¬ 7 ≤ t := by omega
    have c2 : ¬ 7 ≤ tw f := by omega
    have hb : hasB (qbT f (tw f)) (nI t) = false := by rw [hasB_bt (by omega), bt_qb hf (by omega) _ (Nat.le_refl _)]; exact hp.2.1
    simp (disch := omega) only [h.1.2.2.2.2.2.2.2, hw.1, nIle, c1, c2, Bool.true_eq_false, Bool.false_eq_true, false_implies, true_implies, not_true_eq_false, not_false_eq_true, and_true, true_and, bit_0, hb]
    exact hk
  | succ d ih =>
    intro t ht
    obtain ⟨N, hN⟩ := ih (t + 1) (by omega)
    refine ⟨N + 1, ?_⟩
    rw [wp_X1_join_8.eq_2]
    have c1 : ¬ 7 ≤ t := by omega
    have c2 : ¬ 7 ≤ tw f := by omega
    have hb : hasB (qbT f (tw f)) (nI t) = true := by rw [hasB_bt (by omega), bt_qb hf (by omega) _ (Nat.le_refl _)]; exact hp.2.2 t (by omega)
    simp (disch := omega) only [h.1.2.2.2.2.2.2.2, hw.1, nIle, c1, c2, Bool.true_eq_false, Bool.false_eq_true, false_implies, true_implies, not_true_eq_false, not_false_eq_true, and_true, true_and, bit_0, hb, nI_add]
    exact hN
theorem c_join {s : Prop} {I : II} {j : Nat} {f : TW} {Q : Int32 → II → Prop} {d p : Nat} {x : Int32} (h : BK s I j f) (hf : WF f) (hw7 : tw f < 7) (hp : isFr f p) (hd : d ≤ 1) (hq : ∀ J, BK s J j (cT f (nI d) x p) → OUT j I J → Q (nI p) J) : wp_X1_join j (nI d) x I Q := by
  have p7 := hp.1
  have hw := hf.w
  have n4 := hf.n.2
  unfold wp_X1_join
  refine c_queuedBits h hf ?_
  refine c_jn_loop h hf hw7 hp ?_ p 0 (by omega)
  simp only [forall_eq]
  have fin : ∀ v0 : Int32, (∀ q, q < 7 → hasB v0 (nI q) = if q = p then decide (d = 1) else hasB (I (8 * j) 8) (nI q)) → wp_X1_join_74 j Q x (nI p) v0 (su I (8 * j) 9 (I (8 * j) 9 ||| nI 1 <<< (nI p &&& 31))) := by
    intro v0 hv
    unfold wp_X1_join_74
    generalize hK : I (8 * j) 9 ||| nI 1 <<< (nI p &&& 31) = kn
    have e7 : ∀ a b c : Int32, su (su (su I (8 * j) 9 a) (8 * j) 8 b) (8 * j + 6) p c (8 * j) 7 = nI (tw f) := fun a b c => by
      rw [su_cell (by omega), su_slot (by omega), su_slot (by omega), h.1.2.2.2.2.2.2.2, hw.1]
    have e7' : ∀ a b c e : Int32, su (su (su (su I (8 * j) 9 a) (8 * j) 8 b) (8 * j + 6) p c) (8 * j + 7) (tw f) e (8 * j) 7 = nI (tw f) := fun a b c e => by
      rw [su_cell (by omega)]; exact e7 a b c
    simp (disch := omega) only [forall_eq, nIvp, nIcl, p7, Bool.true_eq_false, Bool.false_eq_true, false_implies, true_implies, not_true_eq_false, not_false_eq_true, and_true, true_and, e7, hw7, e7', nI_add]
    refine hq _ ⟨?_, fun t ht => ?_, fun k hk => ?_, fun q hq2 => ?_, fun q hq2 hk => ?_⟩ (((((OUT.rf j I).su (by omega)).su (by omega)).su (by omega)).su (by omega) |>.su (by omega))
    · obtain ⟨x0, x1, x2, x3, x4, x5, x6, x7⟩ := h.1
      have g : ∀ q, q < 7 → su (su (su (su (su I (8 * j) 9 kn) (8 * j) 8 v0) (8 * j + 6) p x) (8 * j + 7) (tw f) (nI p)) (8 * j) 7 (nI (tw f + 1)) (8 * j) q = I (8 * j) q := fun q hq => by
        rw [su_slot (by omega), su_cell (by omega), su_cell (by omega), su_slot (by omega), su_slot (by omega)]
      have ct : ∀ q, q < 7 → cT f (nI d) x p q = f q := fun q hq => by rw [cT_at, if_neg (by omega), if_neg (by omega), if_neg (by omega), if_neg (by omega)]
      rw [g 0 (by omega), g 1 (by omega), g 2 (by omega), g 3 (by omega), g 4 (by omega), g 5 (by omega), g 6 (by omega), su_eq, ct 0 (by omega), ct 1 (by omega), ct 2 (by omega), ct 3 (by omega), ct 4 (by omega), ct 5 (by omega), ct 6 (by omega), cT_at, if_pos rfl]
      exact ⟨x0, x1, x2, x3, x4, x5, x6, rfl⟩
    · rw [cT_n] at ht
      have g : ∀ i, 1 ≤ i → i ≤ 5 → su (su (su (su (su I (8 * j) 9 kn) (8 * j) 8 v0) (8 * j + 6) p x) (8 * j + 7) (tw f) (nI p)) (8 * j) 7 (nI (tw f + 1)) (8 * j + i) = I (8 * j + i) := fun i a b => by
        rw [su_cell (by omega), su_cell (by omega), su_cell (by omega), su_cell (by omega), su_cell (by omega)]
      have ct : ∀ q, 29 ≤ q → cT f (nI d) x p q = f q := fun q hq => by rw [cT_at, if_neg (by omega), if_neg (by omega), if_neg (by omega), if_neg (by omega)]
      rw [g 1 (by omega) (by omega), g 2 (by omega) (by omega), g 3 (by omega) (by omega), g 4 (by omega) (by omega), g 5 (by omega) (by omega), ct _ (by omega), ct _ (by omega), ct _ (by omega), ct _ (by omega), ct _ (by omega)]
      exact h.2.1 t ht
    · rw [cT_w hw7] at hk
      rw [su_cell (by omega), cT_at, if_neg (by omega)]
      by_cases e : k = tw f
      · subst e; rw [su_eq, if_pos rfl]
      · rw [su_slot e, su_cell (by omega), su_cell (by omega), su_cell (by omega), if_neg (by omega), if_neg (by omega), if_neg (by omega)]
        exact h.2.2.1 k (by omega)
    · rw [su_slot (by omega), su_cell (by omega), su_cell (by omega), su_slot (by omega), su_eq, ← hK, hasB_bt (by omega), b_or, bt_bit (by omega) (by omega), ← hasB_bt (by omega), h.2.2.2.1 q hq2, cT_at, if_neg (by omega), if_neg (by omega)]
      have dn : ¬ nI d = -nI 1 := by rw [nIneg (by omega) (by omega) (by omega)]; exact not_false
      by_cases e : q = p
      · subst e; simp [dn]
      · rw [if_neg (by omega), if_neg (by omega)]
        have : ¬ p = q := by omega
        simp [this]
    · have a22 : cT f (nI d) x p (22 + q) = if q = p then nI d else f (22 + q) := by
        rw [cT_at, if_neg (by omega), if_neg (by omega)]
        by_cases e : q = p
        · rw [if_pos (by omega), if_pos e]
        · rw [if_neg (by omega), if_neg (by omega), if_neg e]
      have a15 : cT f (nI d) x p (15 + q) = if q = p then x else f (15 + q) := by
        rw [cT_at, if_neg (by omega), if_neg (by omega), if_neg (by omega)]
        by_cases e : q = p
        · rw [if_pos (by omega), if_pos e]
        · rw [if_neg (by omega), if_neg e]
      rw [a22] at hk
      rw [a22, a15, su_slot (by omega), su_cell (by omega), su_cell (by omega), su_eq, su_cell (a' := 8 * j + 6) (by omega), su_cell (a' := 8 * j + 6) (by omega), hv q hq2]
      by_cases e : q = p
      · subst e
        rw [if_pos rfl, if_pos rfl, if_pos rfl, su_eq]
        refine ⟨?_, rfl⟩
        rw [decide_eq_decide, nIeq (by omega) (by omega)]
      · rw [if_neg e] at hk
        rw [if_neg e, if_neg e, if_neg e, su_slot e, su_cell (by omega), su_cell (by omega)]
        exact h.2.2.2.2 q hq2 hk
  rw [su_slot (by omega), nIe0 (by omega)]
  refine ⟨fun c => fin _ (fun q hq2 => ?_), fun c => fin _ (fun q hq2 => ?_)⟩
  · rw [hasB_bt (by omega), b_and, b_xor, bt_bit (by omega) (by omega), b_n1 _ (by omega), ← hasB_bt (by omega)]
    by_cases e : q = p
    · subst e; simp; omega
    · have : ¬ p = q := by omega
      simp [this, e]
  · rw [hasB_bt (by omega), b_or, bt_bit (by omega) (by omega), ← hasB_bt (by omega)]
    by_cases e : q = p
    · subst e; simp; omega
    · have : ¬ p = q := by omega
      simp [this, e]

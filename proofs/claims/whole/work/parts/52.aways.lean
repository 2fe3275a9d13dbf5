def lA (f : TW) (x : Nat) : List Nat := kR f (bb x) (tw f) 0
def okA (f : TW) (x : Nat) : Bool := decide (paN (loT f (lA f x)) (lA f x).length 0 = (lA f x).length)
section AWAYS
variable {s : Prop} {I : II} {f : TW}
theorem shl7 {n : Nat} (h : n ≤ 7) : (nI 1 : Int32) <<< (nI n &&& 31) = nI (2 ^ n) := by
  have : n = 0 ∨ n = 1 ∨ n = 2 ∨ n = 3 ∨ n = 4 ∨ n = 5 ∨ n = 6 ∨ n = 7 := by omega
  rcases this with rfl | rfl | rfl | rfl | rfl | rfl | rfl | rfl <;> decide
theorem qL_at {i : Nat} (hi : i < tw f) (h : i < (qL f).length) : (qL f)[i] = tq f i := by simp [qL]
theorem c_c40_loop {Q : Int64 → II → Prop} {k : Int32 → Int64 → Int32 → II → Prop} {p x : Nat} {x3 : Int64} (hw7 : tw f ≤ 7) (hx : x < 128) (hk : ∀ J, WF (loT f (lA f x)) → BK s J 2 (loT f (lA f x)) → OUT 2 I J → k (nI p) x3 (nI x) J) : ∀ (i : Nat) (J : II), i ≤ tw f → WF (loT f ((qL f).take i ++ kR f (bb x) (tw f - i) i)) → BK s J 2 (loT f ((qL f).take i ++ kR f (bb x) (tw f - i) i)) → OUT 2 I J → wp_X2_casesAllPaid_40 0 Q k (i + 1) (nI p) x3 (nI x) (nI i - nI 1) J := by
  intro i
  induction i with
  | zero =>
    intro J _ hg hb ho
    rw [wp_X2_casesAllPaid_40.eq_2]
    have c : (nI 0 - nI 1 : Int32) < 0 := by decide
    simp only [c, Bool.true_eq_false, Bool.false_eq_true, false_implies, true_implies, not_true_eq_false, not_false_eq_true, and_true, true_and]
    rw [List.take_zero, List.nil_append, Nat.sub_zero] at hg hb
    exact hk J hg hb ho
  | succ i ih =>
    intro J hi hg hb ho
    have hl : i < (qL f).length := by rw [qL_len]; omega
    have ht : (qL f).take (i + 1) = (qL f).take i ++ [tq f i] := by
      rw [List.take_succ_eq_append_getElem hl, qL_at (by omega)]
    have hlt : ((qL f).take i).length = i := by rw [List.length_take, qL_len]; omega
    have hkl := kR_len f (bb x) (tw f - (i + 1)) (i + 1)
    have hll : ((qL f).take (i + 1) ++ kR f (bb x) (tw f - (i + 1)) (i + 1)).length ≤ 7 := by
      rw [List.length_append, List.length_take]; omega
    have em : tw f - i = tw f - (i + 1) + 1 := by omega
    rw [wp_X2_casesAllPaid_40.eq_2, nIsub (by omega), Nat.add_sub_cancel, hasB_r, bb_h x hx i (by omega)]
    have ed : nI i + -nI 1 = nI i - nI 1 := by rw [Int32.sub_eq_add_neg]
    simp (disch := omega) only [nIlt0, Bool.true_eq_false, Bool.false_eq_true, false_implies, true_implies, not_true_eq_false, not_false_eq_true, and_true, true_and, wp_X2_casesAllPaid_66, ed]
    refine ⟨fun e => ?_, fun e => ?_⟩
    · refine ih J (by omega) ?_ ?_ ho
      · rw [em, kR, if_neg e]
        rw [ht, List.append_assoc] at hg; exact hg
      · rw [em, kR, if_neg e]
        rw [ht, List.append_assoc] at hb; exact hb
    · have hp : i < ((qL f).take (i + 1) ++ kR f (bb x) (tw f - (i + 1)) (i + 1)).length := by
        rw [List.length_append, List.length_take]; omega
      have lv := isLv_lo (f := f) hll hp
      have er : ((qL f).take (i + 1) ++ kR f (bb x) (tw f - (i + 1)) (i + 1)).eraseIdx i = (qL f).take i ++ kR f (bb x) (tw f - i) i := by
        rw [ht, List.append_assoc, List.eraseIdx_append_of_length_le (by omega), hlt, Nat.sub_self, em, kR, if_pos e]
        rfl
      rw [er] at lv
      refine c_leave hb hg (pl := i) (by rw [loT_w hll]; exact hp) (fun L lb lo => ?_)
      exact ih L (by omega) (hg.lv (by rw [loT_w hll]; exact hp) lv) (lb _ lv) (ho.tr lo)
theorem c_c5_loop {Q : Int64 → II → Prop} {k : Int64 → II → Prop} {p r : Nat} (h : BK True I 0 f) (hf : WF f) (h0 : 0 < tn f) (hp : p ≤ 10) (hk : ∀ J, OUT 2 I J → k (lN r) J) : ∀ (d x a : Nat) (J : II), x + d = 2 ^ tw f → a + abS p (tw f) (okA f) d x = r → OUT 2 I J → wp_X2_casesAllPaid_5 0 Q k (d + 1) (nI p) (lN a) (nI x) J := by
  have hn := hf.n
  have hw := hf.w
  have p128 : 2 ^ tw f ≤ 128 := by
    have := Nat.pow_le_pow_right (show 0 < 2 by omega) hw.2
    omega
  intro d
  induction d with
  | zero =>
    intro x a J hx hr ho
    rw [wp_X2_casesAllPaid_5.eq_2, ho (8 * 0) (by omega), h.1.2.2.2.2.2.2.2, hw.1, shl7 hw.2]
    have c : 2 ^ tw f ≤ x := by omega
    simp (disch := omega) only [nIle, c, Bool.true_eq_false, Bool.false_eq_true, false_implies, true_implies, not_true_eq_false, not_false_eq_true, and_true, true_and]
    rw [abS] at hr
    rw [show a = r by omega]
    exact ⟨fun _ => hk J ho, fun _ => hk J ho⟩
  | succ d ih =>
    intro x a J hx hr ho
    rw [wp_X2_casesAllPaid_5.eq_2, ho (8 * 0) (by omega), h.1.2.2.2.2.2.2.2, hw.1, shl7 hw.2]
    have c : ¬ 2 ^ tw f ≤ x := by omega
    have c1 : ¬ 128 ≤ x := by omega
    have jb : BK True J 0 f := h.fr (fun a _ _ => ho a (by omega))
    simp (disch := omega) only [nIle, c, c1, Bool.true_eq_false, Bool.false_eq_true, false_implies, true_implies, not_true_eq_false, not_false_eq_true, and_true, true_and]
    refine c_takeAll (by omega) (fun K hK => ?_)
    have kb := hK.bk jb hn.2 hw.2
    have ok := ho.tr hK.2.2.2
    have ll : lA f x = kR f (bb x) (tw f) 0 := rfl
    have hkl := kR_len f (bb x) (tw f) 0
    rw [← ll] at hkl
    rw [ok (8 * 0) (by omega), h.1.2.2.2.2.2.2.2, hw.1]
    have start : (qL f).take (tw f) ++ kR f (bb x) (tw f - tw f) (tw f) = qL f := by
      rw [Nat.sub_self, kR, List.append_nil, List.take_of_length_le (by rw [qL_len]; exact Nat.le_refl _)]
    refine ⟨_, c_c40_loop (s := True) (I := I) hw.2 (by omega) (fun L lg lb lo => ?_) (tw f) K (Nat.le_refl _) (by rw [start, loT_qL hf]; exact hf) (by rw [start, loT_qL hf]; exact kb) ok⟩
    have wl : tw (loT f (lA f x)) = (lA f x).length := loT_w (by omega)
    have e7 : L (8 * 2) 7 = nI (lA f x).length := by rw [lb.1.2.2.2.2.2.2.2, lg.w.1, wl]
    refine c_ghostPaid lb lg (by rw [loT_n]; exact h0) (fun M mo => ?_)
    have om := lo.tr mo
    have pl := paN_le (loT f (lA f x)) (lA f x).length 0
    rw [abS] at hr
    rw [e7, wl, nIeq (by omega) (by omega)]
    unfold wp_X2_casesAllPaid_114
    rw [nI_add]
    refine ⟨fun e => ?_, fun e => ?_⟩
    · rw [if_neg (by unfold okA; rw [decide_eq_false e]; decide)] at hr
      exact ih (x + 1) a M (by omega) (by omega) om
    · rw [if_pos (by unfold okA; exact decide_eq_true e)] at hr
      rw [om (8 * 0) (by omega), h.1.2.2.2.2.2.2.2, hw.1, nIsub hkl]
      refine c_power (by omega) (by omega) ?_
      rw [nIsub hp]
      refine c_power (by omega) (by omega) ?_
      rw [lN_mul, lN_add]
      refine ih (x + 1) _ M (by omega) ?_ om
      rw [← hr, wy_pow p f (bb x) (tw f) 0]
      show a + p ^ (tw f - (lA f x).length) * (10 - p) ^ (lA f x).length + _ = a + (p ^ (tw f - (lA f x).length) * (10 - p) ^ (lA f x).length + _)
      omega
theorem lA_set {x : Nat} (hf : WF f) : kR f (fun k => hasB (abD f (bb x) (tw f) 0 (nI 0)) (nI (tq f k))) (tw f) 0 = lA f x := by
  unfold lA
  refine kR_congr (tw f) 0 (fun k _ hk => ?_)
  have q7 := (hf.q (k := k) (by omega)).2
  rw [hasB_bt (by omega), bt_abD hf (bb x) (by omega) _ _ _ (by omega), b_n0, Bool.false_or]
  rw [Bool.eq_iff_iff, anR_t]
  constructor
  · intro ⟨i, _, hi, e⟩
    rw [Bool.and_eq_true, decide_eq_true_eq] at e
    have := hf.dist (by omega) (by omega) e.2
    subst this
    exact e.1
  · intro e
    exact ⟨k, by omega, hk, by rw [e]; simp⟩
theorem m_72_loop {Q : Int64 → II → Prop} {k : Int32 → Int32 → Int64 → Int64 → Int32 → Int32 → Int64 → Int32 → II → Prop} {p x tot : Nat} {x2 : Int32} {x3 x5 : Int64} {st : Int32} (hI : ∀ q, q < 49 → I 316 q = f q) (hf : WF f) (hp : p ≤ 10) (hx : x < 128) (hk : k (nI p) x2 x3 x5 (nI (tw f)) (nI x) (lN tot) st I) : ∀ (d i a : Nat) (y : Int32), i + d = tw f → a * wy p (bb x) d i = tot → abD f (bb x) d i y = st → ∃ N, wp_X8_away_72 Q k N (nI p) x2 x3 x5 (nI (tw f)) (nI x) (lN a) y (nI i) I := by
  have hw := hf.w
  intro d
  induction d with
  | zero =>
    intro i a y hi ha hy
    refine ⟨1, ?_⟩
    rw [wp_X8_away_72.eq_2]
    have c : tw f ≤ i := by omega
    simp (disch := omega) only [nIle, c, Bool.true_eq_false, Bool.false_eq_true, false_implies, true_implies, not_true_eq_false, not_false_eq_true, and_true, true_and]
    rw [wy, Nat.mul_one] at ha
    rw [abD] at hy
    rw [ha, hy]; exact hk
  | succ d ih =>
    intro i a y hi ha hy
    have c : ¬ tw f ≤ i := by omega
    have q8 := (hf.q (k := i) (by omega)).1
    have e8 : I 316 (8 + i) = nI (tq f i) := by rw [hI _ (by omega), q8]
    have g8 : 8 + i < 1372 := by omega
    rw [wy] at ha
    rw [abD] at hy
    cases hb : bb x i with
    | true =>
      rw [if_pos hb, ← Nat.mul_assoc] at ha
      rw [if_pos hb] at hy
      obtain ⟨N, hN⟩ := ih (i + 1) (a * p) _ (by omega) ha hy
      refine ⟨N + 1, ?_⟩
      rw [wp_X8_away_72.eq_2]
      simp (disch := omega) only [nIle, c, Bool.true_eq_false, Bool.false_eq_true, false_implies, true_implies, not_true_eq_false, not_false_eq_true, and_true, true_and, m_has, bb_h x hx i (by omega), hb, i1_0, wp_X8_away_101, wp_X8_away_132, nI_add, nIvp, nIcl, g8, e8, nI_l, lN_mul]
      exact hN
    | false =>
      have hb' : ¬ bb x i = true := by rw [hb]; decide
      rw [if_neg hb', ← Nat.mul_assoc] at ha
      rw [if_neg hb'] at hy
      obtain ⟨N, hN⟩ := ih (i + 1) (a * (10 - p)) _ (by omega) ha hy
      refine ⟨N + 1, ?_⟩
      rw [wp_X8_away_72.eq_2]
      simp (disch := omega) only [nIle, c, Bool.true_eq_false, Bool.false_eq_true, false_implies, true_implies, not_true_eq_false, not_false_eq_true, and_true, true_and, m_has, bb_h x hx i (by omega), hb, i1_0, wp_X8_away_101, wp_X8_away_132, nI_add, nIsub hp, nI_l, lN_mul, nI_0, Int32.or_zero]
      exact hN
theorem m_54_loop {Q : Int64 → II → Prop} {k : Int32 → Int64 → Int64 → II → Prop} {p r r' : Nat} {x2 : Int32} (hf : WF f) (hp : p ≤ 10) (hk : ∀ J, FRA I J → k x2 (lN r) (lN r') J) : ∀ (d x a b : Nat) (J : II), x + d = 2 ^ tw f → a + abS p (tw f) (okA f) d x = r → b + blS p (tw f) d x = r' → FRA I J → TNW J f → wp_X8_away_54 Q k (d + 1) (nI p) x2 (lN a) (lN b) (nI (tw f)) (nI x) J := by
  have hn := hf.n
  have hw := hf.w
  have p128 : 2 ^ tw f ≤ 128 := by
    have := Nat.pow_le_pow_right (show 0 < 2 by omega) hw.2
    omega
  have g28 : 1328 < 1372 := by omega
  have g5 : 5 < 1372 := by omega
  intro d
  induction d with
  | zero =>
    intro x a b J hx ha hb ho hj
    rw [wp_X8_away_54.eq_2, shl7 hw.2]
    have c : 2 ^ tw f ≤ x := by omega
    simp (disch := omega) only [nIle, c, Bool.true_eq_false, Bool.false_eq_true, false_implies, true_implies, not_true_eq_false, not_false_eq_true, and_true, true_and]
    rw [abS] at ha
    rw [blS] at hb
    rw [show a = r by omega, show b = r' by omega]
    exact hk J ho
  | succ d ih =>
    intro x a b J hx ha hb ho hj
    rw [wp_X8_away_54.eq_2, shl7 hw.2]
    have c : ¬ 2 ^ tw f ≤ x := by omega
    simp (disch := omega) only [nIle, c, Bool.true_eq_false, Bool.false_eq_true, false_implies, true_implies, not_true_eq_false, not_false_eq_true, and_true, true_and]
    rw [abS] at ha
    rw [blS] at hb
    refine m_72_loop (tot := wy p (bb x) (tw f) 0) (st := abD f (bb x) (tw f) 0 (nI 0)) hj.1 hf hp (by omega) ?_ (tw f) 0 1 (nI 0) (by omega) (Nat.one_mul _) rfl
    refine m_leaveOut hf hj ?_
    rw [lA_set hf]
    have wg : WF (loT f (lA f x)) := hf.lo (kR_sub f (bb x) (tw f) 0)
    have hkl : (lA f x).length ≤ tw f := kR_len f (bb x) (tw f) 0
    have wl : tw (loT f (lA f x)) = (lA f x).length := loT_w (by omega)
    refine m_bits7 (by omega) ?_
    have ecn := cn_pc (tw f) (by omega) x (by omega) (by omega)
    have ekl : (lA f x).length + cnB (bb x) (tw f) 0 = tw f := cn_kR f (bb x) (tw f) 0
    have en : nI (tw f) - nI (cnB (bb x) 7 0) = nI (lA f x).length := by rw [ecn, nIsub (by omega)]; congr 1; omega
    rw [en]
    refine m_passes (by omega) wg (by omega) ?_
    have ap := all_paid wg
    rw [wl, loT_out (by omega) (show 5 < 7 ∨ 15 ≤ 5 by omega)] at ap
    have e28 : ∀ g, pT J 1323 g 316 1328 = g 5 := fun g => by rw [show 1328 = 1323 + 5 by omega, pT_get (by omega)]
    have e5 : ∀ g, pT J 1323 g 316 5 = f 5 := fun g => (hj.pT g).1 5 (by omega)
    have fr := FRA.pT J (itF (loT f (lA f x)) (lA f x).length)
    simp (disch := omega) only [nIvp, nIcl, g28, g5, e28, e5, ap, Bool.true_eq_false, Bool.false_eq_true, false_implies, true_implies, not_true_eq_false, not_false_eq_true, and_true, true_and, wp_X8_away_186, nI_add, lN_add]
    refine ⟨fun e => ?_, fun e => ?_⟩
    · rw [if_neg (by unfold okA; rw [decide_eq_false e]; decide)] at ha
      exact ih (x + 1) (a + 0) _ _ (by omega) (by omega) (by omega) (ho.tr fr) (hj.fr fr)
    · rw [if_pos (by unfold okA; exact decide_eq_true e)] at ha
      exact ih (x + 1) _ _ _ (by omega) (by omega) (by omega) (ho.tr fr) (hj.fr fr)
end AWAYS
theorem s_away (x1 x2 : Int32) : SIML (wp_X7_away x1 x2) (wp_X8_away x1 x2) := by
  intro I v
  obtain ⟨f, sz, lt, h, p, cc, m⟩ := v.ok
  have hf := p.1
  have c := cc.1
  have hw := hf.w
  have mI : TNW I f := ⟨m.1, m.2.2.1⟩
  have i1' : ((¬ x1 < 0) ∧ ¬ nI 10 < x1) ↔ inB 0 10 x1 = true := by
    unfold inB
    rw [Bool.and_eq_true, decide_eq_true_eq, decide_eq_true_eq, i32_le, i32_le, nI_0]
  by_cases h0 : 0 < tn f
  · by_cases ha : inB 0 10 x1 = true ∧ inB 0 1 x2 = true
    · obtain ⟨e1, e2⟩ := ha
      obtain ⟨q, -, hq, rfl⟩ := inB_of (by omega) (by omega) e1
      have e1' := i1'.mpr e1
      have b10 := bl10 q (by omega) (tw f) (by omega)
      have ale := abS_le q (tw f) (okA f) (2 ^ tw f) 0
      have p10 : 10 ^ tw f ≤ 10 ^ 7 := Nat.pow_le_pow_right (by omega) hw.2
      have p0 : 0 < 10 ^ tw f := Nat.pow_pos (by omega)
      rw [b10] at ale
      have A := abS q (tw f) (okA f) (2 ^ tw f) 0
      have gp : 0 < Nat.gcd (abS q (tw f) (okA f) (2 ^ tw f) 0) (10 ^ tw f) := Nat.gcd_pos_of_pos_right _ p0
      have gle : Nat.gcd (abS q (tw f) (okA f) (2 ^ tw f) 0) (10 ^ tw f) ≤ 10 ^ tw f := Nat.gcd_le_right _ p0
      have gn : ¬ lN (Nat.gcd (abS q (tw f) (okA f) (2 ^ tw f) 0) (10 ^ tw f)) = 0 := by
        have : ¬ lN (Nat.gcd (abS q (tw f) (okA f) (2 ^ tw f) 0) (10 ^ tw f)) = lN 0 := by rw [pk_lEQ (by omega) (by omega)]; omega
        exact this
      have gg : 0 < lg_cmp (lN (Nat.gcd (abS q (tw f) (okA f) (2 ^ tw f) 0) (10 ^ tw f))) (lN 0) := by
        rw [lg_gt, pk_lLT (by omega) (by omega)]; exact gp
      have mdl : ∀ J, FRA I J → ∀ z : Int64, (x2 = 0 → z = lN (abS q (tw f) (okA f) (2 ^ tw f) 0) / lN (Nat.gcd (abS q (tw f) (okA f) (2 ^ tw f) 0) (10 ^ tw f))) → (¬ x2 = 0 → z = lN (10 ^ tw f) / lN (Nat.gcd (abS q (tw f) (okA f) (2 ^ tw f) 0) (10 ^ tw f))) → wp_X8_away (nI q) x2 J (fun r' K => z = r' ∧ INV K) := by
        intro J hJ z z0 z1
        have mj := mI.fr hJ
        have j7 : J 316 7 = nI (tw f) := by rw [mj.1 7 (by omega), hw.1]
        have g7 : 7 < 1372 := by omega
        unfold wp_X8_away
        rw [mj.2, decide_eq_true h0, i1_0, m_inE _ _ _ _ _ (by omega) (by omega), e1, i1_0, m_inE _ _ _ _ _ (by omega) (by omega), e2, i1_0]
        simp (disch := omega) only [Bool.true_eq_false, Bool.false_eq_true, false_implies, true_implies, not_true_eq_false, not_false_eq_true, and_true, true_and, nIvp, nIcl, g7, j7]
        refine ⟨_, m_54_loop (I := J) (r := abS q (tw f) (okA f) (2 ^ tw f) 0) (r' := 10 ^ tw f) hf hq (fun K hK => ?_) (2 ^ tw f) 0 0 0 J (by omega) (by omega) (by omega) (FRA.rf J) mj⟩
        refine m_gd_loop (g := Nat.gcd (abS q (tw f) (okA f) (2 ^ tw f) 0) (10 ^ tw f)) ?_ 24 _ _ (by omega) (by omega) (by omega) rfl
        refine ⟨fun e => ⟨gn, z1 e, v.fr (hJ.tr hK)⟩, fun e => ⟨gn, z0 e, v.fr (hJ.tr hK)⟩⟩
      unfold wp_X7_away
      rw [c_isThere c hf, decide_eq_true h0, i1_0]
      simp only [Bool.true_eq_false, Bool.false_eq_true, false_implies, true_implies, not_true_eq_false, not_false_eq_true, and_true, true_and, e1'.1, e1'.2]
      rw [k_isChoice, e2, i1_0]
      simp only [Bool.true_eq_false, Bool.false_eq_true, false_implies, true_implies, not_true_eq_false, not_false_eq_true, and_true, true_and]
      unfold wp_X2_casesAllPaid
      refine ⟨_, c_c5_loop (I := I) (r := abS q (tw f) (okA f) (2 ^ tw f) 0) c hf h0 hq (fun J jo => ?_) (2 ^ tw f) 0 0 I (by omega) (by omega) (OUT.rf 2 I)⟩
      show wp_X7_power (nI 10) (J (8 * 0) 7) J _
      rw [jo (8 * 0) (by omega), c.1.2.2.2.2.2.2.2, hw.1]
      refine c_power (by omega) (by omega) ?_
      unfold wp_X7_greatestDivisor
      refine c_gd_loop (g := Nat.gcd (abS q (tw f) (okA f) (2 ^ tw f) 0) (10 ^ tw f)) ?_ 24 _ _ 0 (by omega) (by omega) (by omega) (by omega) rfl
      simp only [gg, Bool.true_eq_false, Bool.false_eq_true, false_implies, true_implies, not_true_eq_false, not_false_eq_true, and_true, true_and]
      have fr := FRA.out (j := 2) (by omega) jo
      exact ⟨fun e => ⟨gn, mdl J fr _ (fun z => absurd z e) (fun _ => rfl)⟩, fun e => ⟨gn, mdl J fr _ (fun _ => rfl) (fun z => absurd e z)⟩⟩
    · have bad : wp_X8_away x1 x2 I (fun r' K => -lN 1000001 = r' ∧ INV K) := by
        unfold wp_X8_away
        rw [mI.2, decide_eq_true h0, i1_0, m_inE _ _ _ _ _ (by omega) (by omega)]
        simp only [Bool.true_eq_false, Bool.false_eq_true, false_implies, true_implies, not_true_eq_false, not_false_eq_true, and_true, true_and]
        refine gd (fun _ => v) (fun e1 => ?_)
        rw [m_inE _ _ _ _ _ (by omega) (by omega)]
        exact gd' (fun _ => v) (fun e2 => absurd ⟨e1, e2⟩ ha)
      unfold wp_X7_away
      rw [c_isThere c hf, decide_eq_true h0, i1_0]
      simp only [Bool.true_eq_false, Bool.false_eq_true, false_implies, true_implies, not_true_eq_false, not_false_eq_true, and_true, true_and]
      refine ⟨fun _ => bad, fun a1 => ⟨fun _ => bad, fun a2 => ?_⟩⟩
      rw [k_isChoice]
      exact gd' (fun _ => bad) (fun e2 => absurd ⟨i1'.mp ⟨a1, a2⟩, e2⟩ ha)
  · have bad : wp_X8_away x1 x2 I (fun r' K => -lN 1000002 = r' ∧ INV K) := by
      unfold wp_X8_away
      rw [mI.2, decide_eq_false h0, i1_0]
      simp only [Bool.true_eq_false, Bool.false_eq_true, false_implies, true_implies, not_true_eq_false, not_false_eq_true, and_true, true_and]
      exact v
    unfold wp_X7_away
    rw [c_isThere c hf, decide_eq_false h0, i1_0]
    simp only [Bool.true_eq_false, Bool.false_eq_true, false_implies, true_implies, not_true_eq_false, not_false_eq_true, and_true, true_and]
    exact bad

def LWK (g : TW) : Prop := (∃ w, 1 ≤ w ∧ w ≤ 20 ∧ g 2 = nI w) ∧ ∃ i, i ≤ 20 ∧ g 1 = nI i
/-- a town being read: n tellers -/
def TI (g : TW) (n : Nat) : Prop := WF g ∧ LWK g ∧ tn g = n ∧ tw g = 0 ∧ g 6 = nI (2 ^ n - 1) ∧ ∀ q, 45 ≤ q → q < 49 → g q = nI 0
def QN (g : TW) (n : Nat) : Prop := tw g = n ∧ ∀ k, k < n → tq g k = k
section PARSE3
variable {b : Nat → Int32} {z : Nat} {I : II} {g : TW}
theorem adT_at (g : TW) (k d c : Int32) (q : Nat) : adT g k d c q = if q = 0 then nI (tn g + 1) else if q = 6 then (g 6 ||| nI 1 <<< (nI (tn g) &&& 31)) else if q = 45 + tn g then nI 0 else if q = 41 + tn g then d else if q = 37 + tn g then c else if q = 33 + tn g then d else if q = 29 + tn g then k else g q := by
  simp only [adT, upd]
theorem adT_o {k d c : Int32} {q : Nat} (h1 : q ≠ 0) (h2 : q ≠ 6) (h3 : q < 29) : adT g k d c q = g q := by
  rw [adT_at, if_neg h1, if_neg h2, if_neg (by omega), if_neg (by omega), if_neg (by omega), if_neg (by omega), if_neg (by omega)]
theorem adT_n {k d c : Int32} (h : tn g < 4) : tn (adT g k d c) = tn g + 1 := by rw [tn, adT_at, if_pos rfl, nI_clamp (by omega)]
theorem adT_w {k d c : Int32} : tw (adT g k d c) = tw g := by rw [tw, adT_o (by omega) (by omega) (by omega)]; rfl
theorem WF.ad (hg : WF g) (hn : tn g < 4) (hw : LWK g) {k d c : Nat} (hk : 1 ≤ k ∧ k ≤ 5) (hd : d ≤ 60) (hc : 1 ≤ c ∧ c ≤ 9) : WF (adT g (nI k) (nI d) (nI c)) := by
  have n4 := hg.n.2
  have w7 := hg.w.2
  have ew := adT_w (g := g) (k := nI k) (d := nI d) (c := nI c)
  have eq : ∀ i, i < 7 → tq (adT g (nI k) (nI d) (nI c)) i = tq g i := fun i hi => by rw [tq, adT_o (by omega) (by omega) (by omega)]; rfl
  refine ⟨⟨?_, ?_⟩, ⟨?_, ?_⟩, fun i hi => ?_, fun i j hi hj e => ?_, fun p hp => ?_, fun i hi => ?_, fun p hp hk => ?_, fun t ht => ?_, fun h0 => ?_⟩
  · rw [adT_n hn, adT_at, if_pos rfl]
  · rw [adT_n hn]; omega
  · rw [ew, adT_o (by omega) (by omega) (by omega)]; exact hg.w.1
  · rw [ew]; exact w7
  · rw [ew] at hi
    rw [eq i (by omega), adT_o (by omega) (by omega) (by omega)]; exact hg.q hi
  · rw [ew] at hi hj
    rw [eq i (by omega), eq j (by omega)] at e; exact hg.dist hi hj e
  · rw [adT_o (by omega) (by omega) (by omega)]; exact hg.dr hp
  · rw [ew] at hi
    have := (hg.q hi).2
    rw [eq i (by omega), adT_o (by omega) (by omega) (by omega)]; exact hg.kn hi
  · rw [adT_o (by omega) (by omega) (by omega)] at hk
    rw [adT_o (by omega) (by omega) (by omega)]; exact hg.sm hp hk
  · rw [adT_n hn] at ht
    by_cases e : t = tn g
    · subst e
      refine ⟨⟨k, hk.1, hk.2, ?_⟩, ⟨d, hd, ?_⟩, ⟨c, hc.1, hc.2, ?_⟩, ⟨d, by omega, ?_⟩⟩
      · rw [adT_at, if_neg (by omega), if_neg (by omega), if_neg (by omega), if_neg (by omega), if_neg (by omega), if_neg (by omega), if_pos rfl]
      · rw [adT_at, if_neg (by omega), if_neg (by omega), if_neg (by omega), if_neg (by omega), if_neg (by omega), if_pos rfl]
      · rw [adT_at, if_neg (by omega), if_neg (by omega), if_neg (by omega), if_neg (by omega), if_pos rfl]
      · rw [adT_at, if_neg (by omega), if_neg (by omega), if_neg (by omega), if_pos rfl]
    · have oo : ∀ q, 29 ≤ q → q ≠ 29 + tn g → q ≠ 33 + tn g → q ≠ 37 + tn g → q ≠ 41 + tn g → q ≠ 45 + tn g → adT g (nI k) (nI d) (nI c) q = g q := fun q h0 h1 h2 h3 h4 h5 => by
        rw [adT_at, if_neg (by omega), if_neg (by omega), if_neg h5, if_neg h4, if_neg h3, if_neg h2, if_neg h1]
      rw [oo _ (by omega) (by omega) (by omega) (by omega) (by omega) (by omega), oo _ (by omega) (by omega) (by omega) (by omega) (by omega) (by omega), oo _ (by omega) (by omega) (by omega) (by omega) (by omega) (by omega), oo _ (by omega) (by omega) (by omega) (by omega) (by omega) (by omega)]
      exact hg.te (by omega)
  · rw [adT_o (by omega) (by omega) (by omega), adT_o (by omega) (by omega) (by omega)]; exact hw
theorem open_up {n : Nat} (h : n < 4) : nI (2 ^ n - 1) ||| nI 1 <<< (nI n &&& 31) = nI (2 ^ (n + 1) - 1) := by
  have : n = 0 ∨ n = 1 ∨ n = 2 ∨ n = 3 := by omega
  rcases this with rfl | rfl | rfl | rfl <;> decide
theorem TEL_0 {p : Nat} (h : (TEL b z p).2 = 0) : (∃ d, d ≤ 60 ∧ tD b z p = nI d) ∧ ∃ c, 1 ≤ c ∧ c ≤ 9 ∧ tC b z p = nI c := by
  obtain ⟨e3, n2⟩ := NM_0 (TK_0 h)
  obtain ⟨e1, n1⟩ := NM_0 (TK_0 e3)
  obtain ⟨d, -, d1, d2⟩ := num_in (by omega) (by omega) n1
  obtain ⟨c, c1, c2, c3⟩ := num_in (by omega) (by omega) n2
  exact ⟨⟨d, d1, d2⟩, c, c1, c2, c3⟩
theorem kdP_lt {p : Nat} (h : ¬ kdP b z p = 0) : p < z ∧ kdP b z p = kd (b p) ∧ 1 ≤ kdP b z p ∧ kdP b z p ≤ 5 := by
  unfold kdP at h ⊢
  by_cases c : p < z
  · rw [if_pos c] at h ⊢
    have := kd_le (b p)
    exact ⟨c, rfl, by omega, this⟩
  · rw [if_neg c] at h; exact absurd rfl h
theorem TI.ad {n p : Nat} (h : TI g n) (hn : n < 4) (hk : ¬ kdP b z p = 0) (ht : (TEL b z p).2 = 0) : TI (adT g (nI (kdP b z p)) (tD b z p) (tC b z p)) (n + 1) := by
  obtain ⟨wg, lw, en, ew, e6, es⟩ := h
  obtain ⟨-, -, k1, k2⟩ := kdP_lt hk
  obtain ⟨⟨d, d1, d2⟩, c, c1, c2, c3⟩ := TEL_0 ht
  rw [d2, c3]
  refine ⟨wg.ad (by omega) lw ⟨k1, k2⟩ d1 ⟨c1, c2⟩, ?_, ?_, ?_, ?_, fun q q1 q2 => ?_⟩
  · unfold LWK
    rw [adT_o (by omega) (by omega) (by omega), adT_o (by omega) (by omega) (by omega)]; exact lw
  · rw [adT_n (by omega), en]
  · rw [adT_w, ew]
  · rw [adT_at, if_neg (by omega), if_pos rfl, e6, en, open_up hn]
  · rw [adT_at, if_neg (by omega), if_neg (by omega)]
    by_cases e : q = 45 + tn g
    · rw [if_pos e]
    · rw [if_neg e, if_neg (by omega), if_neg (by omega), if_neg (by omega), if_neg (by omega)]; exact es q q1 q2
theorem TEL_le {p : Nat} (h : p < z) : (TEL b z p).1 ≤ z := TK_le (NM_le (TK_le (NM_le (by show p + 1 ≤ z; omega))))
theorem TEL_e (p : Nat) : (TEL b z p).2 ≤ 2 := TK_e (NM_e (TK_e (NM_e (by show 0 ≤ 2; omega))))
theorem c_tl_loop {K : II → Prop} {k28 : Int32 → II → Prop} {k47 k109 : II → Prop} {R : Nat × Nat × TW} (hK : ∀ J, DFR I J → (R.1 = 0 → BK True J 1 R.2.2) → K (tp J R.2.1 R.1)) (h28 : ∀ n J p, n ≤ 4 → R = (if n = 0 then 1 else 0, p, R.2.2) → K (tp J p (if n = 0 then 1 else 0)) → k28 (nI n) (tp J p 0)) (h47 : ∀ J p, K (tp J p 3) → k47 (tp J p 0)) (h109 : ∀ J, K J → k109 J) : ∀ (d n p : Nat) (g : TW) (J : II), n + d = 5 → TI g n → p ≤ z → BK True J 1 g → DFR I J → CT J b z → telR b z d n p g = R → wp_X6_readTellers_2 K k28 k47 k109 (d + 1) (nI n) (tp J p 0) := by
  intro d
  induction d with
  | zero =>
    intro n p g J hn ti hp hb hd hc hr
    have := ti.1.n.2
    have := ti.2.2.1
    omega
  | succ d ih =>
    intro n p g J hn ti hp hb hd hc hr
    have z120 := hc.1
    rw [wp_X6_readTellers_2.eq_2, tp_4]
    have c4 : ¬ 4 < n := by omega
    simp (disch := omega) only [nIlt, c4, Bool.true_eq_false, Bool.false_eq_true, false_implies, true_implies, not_true_eq_false, not_false_eq_true, and_true, true_and, nIe0]
    rw [telR] at hr
    refine c_kind hc hp _ ?_
    by_cases k0 : kdP b z p = 0
    · rw [if_pos k0] at hr ⊢
      refine ⟨fun q => absurd rfl q, fun _ => ?_⟩
      subst hr
      exact h28 n J p (by omega) rfl (hK J hd (fun _ => hb))
    · rw [if_neg k0] at hr ⊢
      obtain ⟨pz, -, kk1, kk2⟩ := kdP_lt k0
      have kN : ¬ nI (kdP b z p) = (-nI 1000000) := by rw [nIneg (by omega) (by omega) (by omega)]; exact not_false
      refine ⟨fun _ => ?_, fun q => absurd q kN⟩
      rw [nIeq (by omega) (by omega)]
      by_cases n4 : n = 4
      · rw [if_pos n4] at hr
        refine ⟨fun q => absurd n4 q, fun _ => ?_⟩
        subst hr
        exact h47 J p (hK J hd (fun q => absurd q (by show ¬ (3 : Nat) = 0; omega)))
      · rw [if_neg n4] at hr
        refine ⟨fun _ => ?_, fun q => absurd q n4⟩
        simp only [forall_eq, tp_3]
        rw [nI_add, tp_s3]
        have a1 : ((p + 1, 0) : Nat × Nat).1 ≤ z := by show p + 1 ≤ z; omega
        have a2 := NM_le (b := b) (lo := 0) (hi := 60) a1
        have b2 := NM_e (z := z) (b := b) (lo := 0) (hi := 60) (s := (p + 1, 0)) (by show 0 ≤ 2; omega)
        have a3 := TK_le (b := b) (c := 44) a2
        have b3 := TK_e (z := z) (b := b) (c := 44) b2
        have a4 := NM_le (b := b) (lo := 1) (hi := 9) a3
        have b4 := NM_e (z := z) (b := b) (lo := 1) (hi := 9) b3
        refine c_takeNumber (s := (p + 1, 0)) hc a1 (by show 0 ≤ 3; omega) (by omega) (by omega) _ (fun v1 hv1 => ?_)
        refine c_takeByte hc a2 (by omega) (by omega) _ ?_
        refine c_takeNumber hc a3 (by omega) (by omega) (by omega) _ (fun v2 hv2 => ?_)
        refine c_takeByte hc a4 (by omega) (by omega) _ ?_
        show wp_X1_addTeller 1 _ v1 v2 (tp J (TEL b z p).1 (TEL b z p).2) _
        refine c_addTeller (tp_bk hb) ti.1 (by rw [ti.2.2.1]; omega) (fun L lb lo => ?_)
        have el : tp L (TEL b z p).1 (TEL b z p).2 = L := out_tp lo
        have dl : DFR I L := hd.tr (DFR.out lo)
        rw [nI_add, ← el]
        by_cases t0 : (TEL b z p).2 = 0
        · rw [if_pos t0] at hr
          obtain ⟨e3, n2⟩ := NM_0 (TK_0 t0)
          obtain ⟨e1, n1⟩ := NM_0 (TK_0 e3)
          have ev1 : v1 = tD b z p := hv1 rfl n1
          have ev2 : v2 = tC b z p := hv2 e3 n2
          rw [ev1, ev2] at lb
          rw [t0]
          exact ih (n + 1) _ _ L (by omega) (ti.ad (by omega) k0 t0) (TEL_le pz) lb dl (hc.fr (DFR.out lo)) hr
        · rw [if_neg t0] at hr
          have te := TEL_e (b := b) (z := z) p
          cases d with
          | zero => omega
          | succ d =>
            rw [wp_X6_readTellers_2.eq_2, tp_4]
            have c4 : ¬ 4 < n + 1 := by omega
            simp (disch := omega) only [nIlt, c4, Bool.true_eq_false, Bool.false_eq_true, false_implies, true_implies, not_true_eq_false, not_false_eq_true, and_true, true_and, nIe0, t0]
            refine h109 _ ?_
            subst hr
            exact hK L dl (fun q => absurd q t0)
theorem mz_o {q : Nat} (h : q ≠ 6) : mz g q = g q := upd_ne h
theorem m_kind {Q : Int32 → II → Prop} (x : Int32) (hq : Q (nI (kd x)) I) : wp_X8_kindOfLetter x I Q := by
  unfold wp_X8_kindOfLetter
  unfold kd at hq
  by_cases c1 : x = nI 99
  · rw [if_pos c1] at hq; exact ⟨fun q => absurd c1 q, fun _ => hq⟩
  · rw [if_neg c1] at hq
    refine ⟨fun _ => ?_, fun q => absurd q c1⟩
    by_cases c2 : x = nI 107
    · rw [if_pos c2] at hq; exact ⟨fun q => absurd c2 q, fun _ => hq⟩
    · rw [if_neg c2] at hq
      refine ⟨fun _ => ?_, fun q => absurd q c2⟩
      by_cases c3 : x = nI 111
      · rw [if_pos c3] at hq; exact ⟨fun q => absurd c3 q, fun _ => hq⟩
      · rw [if_neg c3] at hq
        refine ⟨fun _ => ?_, fun q => absurd q c3⟩
        by_cases c4 : x = nI 121
        · rw [if_pos c4] at hq; exact ⟨fun q => absurd c4 q, fun _ => hq⟩
        · rw [if_neg c4] at hq
          refine ⟨fun _ => ?_, fun q => absurd q c4⟩
          by_cases c5 : x = nI 110
          · rw [if_pos c5] at hq; exact ⟨fun q => absurd c5 q, fun _ => hq⟩
          · rw [if_neg c5] at hq; exact ⟨fun _ => hq, fun q => absurd q c5⟩
theorem m_isSort {p : Nat} {w n : Int32} {f : TW} (h : TM I b z) (hp : p ≤ z) (Q : Int32 → II → Prop) (hq : Q (i1 (decide (¬ kdP b z p = 0))) (mq (pT I 1323 f) p w n)) : wp_X8_isSort (mq (pT I 1323 f) p w n) Q := by
  obtain ⟨h1, h2, h3⟩ := h.pT f
  unfold wp_X8_isSort
  have e2 : mq (pT I 1323 f) p w n 315 8 = nI z := by rw [mq_o (by omega)]; exact h2
  rw [e2, mq_p, nIle (by omega) (by omega)]
  unfold kdP at hq
  refine ⟨fun c => ?_, fun c1 => ?_⟩
  · rw [if_neg (by omega), decide_eq_false (by omega)] at hq; exact hq
  · rw [if_pos (by omega)] at hq
    have e3 : mq (pT I 1323 f) p w n 321 p = b p := by rw [mq_c (by omega)]; exact h3 p (by omega)
    rw [nIvp (by omega) (by omega), nIcl (by omega), e3]
    have := kd_le (b p)
    refine ⟨by omega, m_kind _ ?_⟩
    rw [nIle0 (by omega)]
    refine ⟨fun q => ?_, fun q => ?_⟩
    · rw [decide_eq_false (by omega)] at hq; exact hq
    · rw [decide_eq_true q] at hq; exact hq
theorem m_teller2 {n p : Nat} {w n0 : Int32} (h : TM I b z) (ti : TI g n) (hk : ¬ kdP b z p = 0) (hn : n ≤ 4) (Q : Int32 → II → Prop) (h3 : n = 4 → ∀ f' n', Q (nI 0) (mq (pT I 1323 f') p (nI 3) n')) (h1 : ¬ n = 4 → (TEL b z p).2 = 0 → Q (nI 1) (mq (pT I 1323 (mz (adT g (nI (kdP b z p)) (tD b z p) (tC b z p)))) (TEL b z p).1 w (tC b z p))) (h2 : ¬ n = 4 → ¬ (TEL b z p).2 = 0 → ∀ f' n', Q (nI 0) (mq (pT I 1323 f') (TEL b z p).1 (nI (TEL b z p).2) n')) : wp_X8_readsTeller (mq (pT I 1323 (mz g)) p w n0) Q := by
  obtain ⟨pz, ek, kk1, kk2⟩ := kdP_lt hk
  obtain ⟨wg, lw, en, ew, e6, es⟩ := ti
  have z120 := h.1
  unfold wp_X8_readsTeller
  have g23 : 1323 < 1372 := by omega
  have g0 : ∀ (f : TW) (p : Nat) (w n : Int32), mq (pT I 1323 f) p w n 316 1323 = f 0 := fun f p w n => by
    rw [mq_c (by omega)]
    have := pT_get (I := I) (b := 1323) (f := f) (k := 0) (by omega)
    rw [Nat.add_zero] at this; exact this
  have gg : mz g 0 = nI n := by rw [mz_o (by omega), wg.n.1, en]
  have ex : ∀ (f : TW) (k : Nat) (v : Int32) (p : Nat) (w n : Int32), k < 49 → su (mq (pT I 1323 f) p w n) 316 (1323 + k) v = mq (pT I 1323 (upd f k v)) p w n := fun f k v p w n hk => by rw [mq_su (by omega), pT_set hk]
  simp (disch := omega) only [nIvp, nIcl, g23, Bool.true_eq_false, Bool.false_eq_true, false_implies, true_implies, not_true_eq_false, not_false_eq_true, and_true, true_and, g0, gg, nIeq]
  refine ⟨fun n4 => ?_, fun n4 => ?_⟩
  · have h1 := h1 n4
    have h2 := h2 n4
    have e3 : mq (pT I 1323 (mz g)) p w n0 321 p = b p := by rw [mq_c (by omega), pT_oth (by omega)]; exact h.2.2 p pz
    have c3 : p < 120 := by omega
    have g1 : 1352 + n < 1372 := by omega
    have g2 : 1356 + n < 1372 := by omega
    have g3 : 1364 + n < 1372 := by omega
    have g4 : 1360 + n < 1372 := by omega
    have n1 : ¬ (nI 1 : Int32) = 0 := by decide
    have z0 : (nI 0 : Int32) = 0 := rfl
    rw [mq_p]
    simp (disch := omega) only [nIvp, nIcl, c3, Bool.true_eq_false, Bool.false_eq_true, false_implies, true_implies, not_true_eq_false, not_false_eq_true, and_true, true_and, e3]
    refine m_kind _ ?_
    rw [← ek]
    have a1 : ((p + 1, 0) : Nat × Nat).1 ≤ z := by show p + 1 ≤ z; omega
    have a2 := NM_le (b := b) (lo := 0) (hi := 60) a1
    have a3 := TK_le (b := b) (c := 44) a2
    have a4 := NM_le (b := b) (lo := 1) (hi := 9) a3
    have x1 : ∀ (f : TW) (v : Int32) (p : Nat) (w n' : Int32), su (mq (pT I 1323 f) p w n') 316 (1352 + n) v = mq (pT I 1323 (upd f (29 + n) v)) p w n' := fun f v p w n' => by rw [show 1352 + n = 1323 + (29 + n) by omega]; exact ex _ _ _ _ _ _ (by omega)
    have x2 : ∀ (f : TW) (v : Int32) (p : Nat) (w n' : Int32), su (mq (pT I 1323 f) p w n') 316 (1356 + n) v = mq (pT I 1323 (upd f (33 + n) v)) p w n' := fun f v p w n' => by rw [show 1356 + n = 1323 + (33 + n) by omega]; exact ex _ _ _ _ _ _ (by omega)
    have x3 : ∀ (f : TW) (v : Int32) (p : Nat) (w n' : Int32), su (mq (pT I 1323 f) p w n') 316 (1364 + n) v = mq (pT I 1323 (upd f (41 + n) v)) p w n' := fun f v p w n' => by rw [show 1364 + n = 1323 + (41 + n) by omega]; exact ex _ _ _ _ _ _ (by omega)
    have x4 : ∀ (f : TW) (v : Int32) (p : Nat) (w n' : Int32), su (mq (pT I 1323 f) p w n') 316 (1360 + n) v = mq (pT I 1323 (upd f (37 + n) v)) p w n' := fun f v p w n' => by rw [show 1360 + n = 1323 + (37 + n) by omega]; exact ex _ _ _ _ _ _ (by omega)
    have x5 : ∀ (f : TW) (v : Int32) (p : Nat) (w n' : Int32), su (mq (pT I 1323 f) p w n') 316 1323 v = mq (pT I 1323 (upd f 0 v)) p w n' := fun f v p w n' => ex f 0 v p w n' (by omega)
    simp (disch := omega) only [nI_add, nIvp, nIcl, g1, Bool.true_eq_false, Bool.false_eq_true, false_implies, true_implies, not_true_eq_false, not_false_eq_true, and_true, true_and, forall_eq, x1, mq_p, mq_sp]
    refine m_number (s := (p + 1, 0)) (h.pT _) a1 rfl (by omega) (by omega) _ (fun e2 => ?_) (fun n' e2 => ?_)
    · simp (disch := omega) only [n1, Bool.true_eq_false, Bool.false_eq_true, false_implies, true_implies, not_true_eq_false, not_false_eq_true, and_true, true_and, nI_add, nIvp, nIcl, g2, g3, forall_eq, mq_n, x2, x3]
      refine m_sign (h.pT _) a2 e2 _ (fun e3 => ?_) (fun e3 => ?_)
      · refine ⟨fun q => absurd q n1, fun _ => ?_⟩
        refine m_number (h.pT _) a3 e3 (by omega) (by omega) _ (fun e4 => ?_) (fun n' e4 => ?_)
        · simp (disch := omega) only [n1, Bool.true_eq_false, Bool.false_eq_true, false_implies, true_implies, not_true_eq_false, not_false_eq_true, and_true, true_and, nI_add, nIvp, nIcl, g4, g23, forall_eq, mq_n, x4, x5, g0]
          refine m_sign (h.pT _) a4 e4 _ (fun e5 => ⟨Or.inr rfl, ?_⟩) (fun e5 => ⟨Or.inl rfl, h2 e5 _ _⟩)
          have key := h1 e5
          have et : pT I 1323 (mz (adT g (nI (kdP b z p)) (tD b z p) (tC b z p))) = pT I 1323 (upd (upd (upd (upd (upd (mz g) (29 + n) (nI (kdP b z p))) (33 + n) (nV b z (p + 1))) (41 + n) (nV b z (p + 1))) (37 + n) (nV b z (TK b z 44 (NM b z 0 60 (p + 1, 0))).1)) 0 (upd (upd (upd (upd (mz g) (29 + n) (nI (kdP b z p))) (33 + n) (nV b z (p + 1))) (41 + n) (nV b z (p + 1))) (37 + n) (nV b z (TK b z 44 (NM b z 0 60 (p + 1, 0))).1) 0 + nI 1)) := by
            refine pT_congr (fun q hq => ?_)
            have m0 : mz g 0 = nI n := gg
            rw [upd_ne (k' := 0) (by omega), upd_ne (k' := 0) (by omega), upd_ne (k' := 0) (by omega), upd_ne (k' := 0) (by omega), m0, nI_add]
            unfold mz
            simp only [upd]
            rw [adT_at, en]
            by_cases q6 : q = 6
            · rw [if_pos q6, if_neg (by omega), if_neg (by omega), if_neg (by omega), if_neg (by omega), if_neg (by omega), if_pos q6]
            · rw [if_neg q6, if_neg q6]
              by_cases q0 : q = 0
              · rw [if_pos q0, if_pos q0]
              · rw [if_neg q0, if_neg q0]
                by_cases q45 : q = 45 + n
                · rw [if_pos q45, if_neg (by omega), if_neg (by omega), if_neg (by omega), if_neg (by omega)]
                  rw [if_neg q6]; exact (es q (by omega) hq).symm
                · rw [if_neg q45]
                  by_cases q41 : q = 41 + n
                  · rw [if_pos q41, if_neg (by omega), if_pos q41]; rfl
                  · rw [if_neg q41, if_neg q41]
                    by_cases q37 : q = 37 + n
                    · rw [if_pos q37, if_pos q37]; rfl
                    · rw [if_neg q37, if_neg q37, if_neg q6]; rfl
          rw [et] at key
          exact key
        · have e5 : TEL b z p = NM b z 1 9 (TK b z 44 (NM b z 0 60 (p + 1, 0))) := TK_f e4
          rw [e5] at h2
          exact ⟨fun q => absurd z0 q, fun _ => h2 e4 _ _⟩
      · have e5 : TEL b z p = TK b z 44 (NM b z 0 60 (p + 1, 0)) := by unfold TEL; rw [NM_f e3, TK_f e3]
        rw [e5] at h2
        exact ⟨fun _ => h2 e3 _ _, fun q => absurd z0 q⟩
    · have e5 : TEL b z p = NM b z 0 60 (p + 1, 0) := by unfold TEL; rw [TK_f e2, NM_f e2, TK_f e2]
      rw [e5] at h2
      exact ⟨fun q => absurd z0 q, fun _ => h2 e2 _ _⟩
  · unfold wp_X8_refuse
    simp only [forall_eq, mq_sw]
    exact ⟨Or.inl rfl, h3 n4 _ _⟩
theorem m_teller {n p : Nat} {w n0 : Int32} (h : TM I b z) (ti : TI g n) (hk : ¬ kdP b z p = 0) (hn : n ≤ 4) (Q : Int32 → II → Prop) (h3 : n = 4 → ∀ f' n', Q (nI 0) (mq (pT I 1323 f') p (nI 3) n')) (h1 : ¬ n = 4 → (TEL b z p).2 = 0 → ∀ n', Q (nI 1) (mq (pT I 1323 (mz (adT g (nI (kdP b z p)) (tD b z p) (tC b z p)))) (TEL b z p).1 w n')) (h2 : ¬ n = 4 → ¬ (TEL b z p).2 = 0 → ∀ f' n', Q (nI 0) (mq (pT I 1323 f') (TEL b z p).1 (nI (TEL b z p).2) n')) : wp_X8_readsTeller (mq (pT I 1323 (mz g)) p w n0) Q :=
  m_teller2 h ti hk hn Q h3 (fun a c => h1 a c _) h2
end PARSE3

/-! ===== drawn ===== -/
def frN (f : TW) : Nat → Nat → Nat
  | 0, p => p
  | d + 1, p => if inQ f p then frN f d (p + 1) else p
theorem frN_eq {f : TW} {p : Nat} (h : isFr f p) : ∀ d i, i ≤ p → p ≤ i + d → frN f d i = p := by
  intro d
  induction d with
  | zero => intro i h1 h2; rw [frN]; omega
  | succ d ih =>
    intro i h1 h2
    rw [frN]
    by_cases e : i = p
    · subst e; rw [if_neg (by rw [h.2.1]; decide)]
    · rw [if_pos (h.2.2 i (by omega))]; exact ih (i + 1) (by omega) (by omega)
theorem frN_ok {f : TW} (h : tw f < 7) : isFr f (frN f 7 0) := by
  obtain ⟨p, hp⟩ := fr_ex h
  rw [frN_eq hp 7 0 (by omega) (by have := hp.1; omega)]; exact hp
def nxN (n : Nat) : Nat := n * 16807 % 2147483647
def drN (n : Nat) : Nat := if n % 3 = 0 then 0 else 1
def cmT (f : TW) (n : Nat) : TW := if tw f < 7 then cT f (nI (drN n)) (nI (n % 30 + 1)) (frN f 7 0) else f
def dwT : Nat → TW → Nat → TW
  | 0, f, _ => f
  | d + 1, f, x => dwT d (passF (cmT f (nxN x))) (nxN x)
theorem drN_le (n : Nat) : drN n ≤ 1 := by unfold drN; split <;> omega
theorem WF.cm {f : TW} (hf : WF f) (n : Nat) : WF (cmT f n) := by
  unfold cmT
  split
  · rename_i h
    exact hf.come (drN_le n) (by omega) (by omega) h (frN_ok h)
  · exact hf
theorem cm_n (f : TW) (n : Nat) : tn (cmT f n) = tn f := by
  unfold cmT
  split
  · exact cT_n
  · rfl
theorem nxN_lt (n : Nat) : nxN n < 2147483647 := Nat.mod_lt _ (by omega)
theorem nx_l {n : Nat} (h : n < 2147483647) : lN n * lN 16807 - lN n * lN 16807 / lN 2147483647 * lN 2147483647 = lN (nxN n) := by
  rw [lN_mul, pk_lRem (by omega) (by omega) (by omega)]; rfl
theorem r30_l {n : Nat} (h : n < 2147483647) : (lN n - lN n / lN 30 * lN 30).toInt32 + nI 1 = nI (n % 30 + 1) := by
  rw [pk_lRem (by omega) (by omega) (by omega), lN_i, nI_add]
theorem lcmp0 {n : Nat} (h : n < 2 ^ 63) : (lg_cmp (lN n) (lN 0) = 0) = (n = 0) := by
  unfold lg_cmp
  have e1 : (lN n > lN 0) = (0 < n) := propext (pk_lLT (by omega) h)
  have e2 : (lN n = lN 0) = (n = 0) := propext (pk_lEQ h (by omega))
  simp only [e1, e2]
  by_cases c : n = 0
  · subst c; simp
  · have : 0 < n := by omega
    simp [this, c]
theorem r3_l {n : Nat} (h : n < 2147483647) : (lg_cmp (lN n - lN n / lN 3 * lN 3) (lN 0) = 0) = (n % 3 = 0) := by
  rw [pk_lRem (by omega) (by omega) (by omega), lcmp0 (by omega)]
section DRAWN
variable {s : Prop} {I : II} {f : TW}
theorem c_joinA {j : Nat} {Q : Int32 → II → Prop} {n : Nat} (h : BK s I j f) (hf : WF f) (hq : ∀ r J, BK s J j (cmT f n) → OUT j I J → Q r J) : wp_X1_join j (nI (drN n)) (nI (n % 30 + 1)) I Q := by
  have hw := hf.w
  by_cases c : tw f < 7
  · rw [cmT, if_pos c] at hq
    exact c_join h hf c (frN_ok c) (drN_le n) (fun J jb jo => hq _ J jb jo)
  · rw [cmT, if_neg c] at hq
    unfold wp_X1_join
    refine c_queuedBits h hf ⟨1, ?_⟩
    rw [wp_X1_join_8.eq_2, h.1.2.2.2.2.2.2.2, hw.1]
    have c1 : ¬ 7 ≤ 0 := by omega
    have c2 : 7 ≤ tw f := by omega
    simp (disch := omega) only [nIle, c1, c2, Bool.true_eq_false, Bool.false_eq_true, false_implies, true_implies, not_true_eq_false, not_false_eq_true, and_true, true_and]
    exact hq _ I h (OUT.rf j I)
theorem c_wk2_loop {Q k : II → Prop} {m : Nat} {g0 : TW} (hm : m < 2147483648) (hk : ∀ J, BK s J 2 g0 → OUT 2 I J → k J) : ∀ (d t : Nat) (g : TW) (x : Nat) (J : II), t + d = m → x < 2147483647 → WF g → 0 < tn g → dwT d g x = g0 → BK s J 2 g → OUT 2 I J → wp_X2_weeks_15 0 Q k (d + 1) (nI m) (lN x) (nI t) J := by
  intro d
  induction d with
  | zero =>
    intro t g x J ht hx hg h0 hr hb ho
    rw [wp_X2_weeks_15.eq_2]
    have c : m ≤ t := by omega
    simp (disch := omega) only [nIle, c, Bool.true_eq_false, Bool.false_eq_true, false_implies, true_implies, not_true_eq_false, not_false_eq_true, and_true, true_and]
    rw [dwT] at hr
    subst hr
    exact hk J hb ho
  | succ d ih =>
    intro t g x J ht hx hg h0 hr hb ho
    rw [wp_X2_weeks_15.eq_2]
    have c : ¬ m ≤ t := by omega
    have n0 : ¬ lN 2147483647 = 0 := by decide
    have n3 : ¬ lN 3 = 0 := by decide
    have n30 : ¬ lN 30 = 0 := by decide
    have xl := nxN_lt x
    rw [nx_l hx, r3_l xl]
    simp (disch := omega) only [nIle, c, n0, n3, Bool.true_eq_false, Bool.false_eq_true, false_implies, true_implies, not_true_eq_false, not_false_eq_true, and_true, true_and]
    rw [dwT] at hr
    have main : wp_X2_weeks_53 0 Q (fun x2 x4 x6 I => wp_X2_weeks_15 0 Q k (d + 1) x2 x4 x6 I) (nI m) (lN (nxN x)) (nI t) (nI (drN (nxN x))) J := by
      unfold wp_X2_weeks_53
      rw [r30_l xl]
      refine ⟨n30, c_joinA hb hg (fun r K kb ko => ?_)⟩
      have wc := hg.cm (nxN x)
      refine c_passTurn kb wc (by rw [cm_n]; exact h0) (fun L lb lo => ?_)
      rw [nI_add]
      exact ih (t + 1) _ _ L (by omega) xl wc.pass (by rw [tn_pass wc, cm_n]; exact h0) hr lb ((ho.tr ko).tr lo)
    unfold drN at main
    refine ⟨fun e => ?_, fun e => ?_⟩
    · rw [if_pos e] at main; exact main
    · rw [if_neg e] at main; exact main
theorem m_dw_loop {Q : Int32 → II → Prop} {k : Int32 → II → Prop} {m : Nat} {y : Int32} {g0 : TW} (hm : m < 2147483648) (hk : k y (pT I 1323 g0)) : ∀ (d t : Nat) (g : TW) (x : Nat), t + d = m → x < 2147483647 → WF g → dwT d g x = g0 → ∃ N, wp_X8_drawn_59 Q k N (nI m) y (lN x) (nI t) (pT I 1323 g) := by
  intro d
  induction d with
  | zero =>
    intro t g x ht hx hg hr
    refine ⟨1, ?_⟩
    rw [wp_X8_drawn_59.eq_2]
    have c : m ≤ t := by omega
    simp (disch := omega) only [nIle, c, Bool.true_eq_false, Bool.false_eq_true, false_implies, true_implies, not_true_eq_false, not_false_eq_true, and_true, true_and]
    rw [dwT] at hr
    subst hr
    exact hk
  | succ d ih =>
    intro t g x ht hx hg hr
    have c : ¬ m ≤ t := by omega
    have n0 : ¬ lN 2147483647 = 0 := by decide
    have n3 : ¬ lN 3 = 0 := by decide
    have n30 : ¬ lN 30 = 0 := by decide
    have xl := nxN_lt x
    have wc := hg.cm (nxN x)
    rw [dwT] at hr
    obtain ⟨N, hN⟩ := ih (t + 1) _ _ (by omega) xl wc.pass hr
    refine ⟨N + 1, ?_⟩
    rw [wp_X8_drawn_59.eq_2, nx_l hx, r3_l xl]
    have e7 : pT I 1323 g 316 1330 = nI (tw g) := by rw [show 1330 = 1323 + 7 by omega, pT_get (by omega), hg.w.1]
    have g30 : 1330 < 1372 := by omega
    have w7 := hg.w.2
    simp (disch := omega) only [nIle, c, n0, n3, Bool.true_eq_false, Bool.false_eq_true, false_implies, true_implies, not_true_eq_false, not_false_eq_true, and_true, true_and, nIvp, nIcl, g30, e7]
    have fin : wp_X8_drawn_123 Q (fun x1 x3 x4 x6 I => wp_X8_drawn_59 Q k N x1 x3 x4 x6 I) (nI m) y (lN (nxN x)) (nI t) (pT I 1323 (cmT g (nxN x))) := by
      unfold wp_X8_drawn_123
      refine m_pass (by omega) wc ?_
      rw [nI_add]; exact hN
    refine ⟨fun e => ?_, fun e => ?_⟩
    · rw [cmT, if_neg (by omega)] at fin; exact fin
    · rw [cmT, if_pos (by omega)] at fin
      have main : wp_X8_drawn_110 Q (fun x1 x3 x4 x6 I => wp_X8_drawn_59 Q k N x1 x3 x4 x6 I) (nI m) y (lN (nxN x)) (nI t) (nI (drN (nxN x))) (nI 1323) (pT I 1323 g) := by
        unfold wp_X8_drawn_110
        rw [r30_l xl]
        exact ⟨n30, m_comes (by omega) hg (by omega) (frN_ok (by omega)) fin⟩
      unfold drN at main
      refine ⟨fun e => ?_, fun e => ?_⟩
      · rw [if_neg e] at main; exact main
      · rw [if_pos e] at main; exact main
theorem c_lt_loop {j : Nat} {Q : Int32 → II → Prop} {k : Int32 → II → Prop} (h : BK s I j f) (hf : WF f) (hk : k (lsum f (tn f)) I) : ∀ (d t : Nat), t + d = tn f → ∃ N, wp_X1_leftTogether_4 j Q k N (lsum f t) (nI t) I := by
  have hn := hf.n
  intro d
  induction d with
  | zero =>
    intro t ht
    refine ⟨1, ?_⟩
    rw [wp_X1_leftTogether_4.eq_2]
    have c : tn f ≤ t := by omega
    have e : t = tn f := by omega
    simp (disch := omega) only [h.1.2.2.1, hn.1, nIle, c, Bool.true_eq_false, Bool.false_eq_true, false_implies, true_implies, not_true_eq_false, not_false_eq_true, and_true, true_and]
    rw [e]; exact hk
  | succ d ih =>
    intro t ht
    obtain ⟨N, hN⟩ := ih (t + 1) (by omega)
    refine ⟨N + 1, ?_⟩
    rw [wp_X1_leftTogether_4.eq_2]
    have c : ¬ tn f ≤ t := by omega
    have c4 : ¬ 4 ≤ t := by omega
    have t4 : t < 4 := by omega
    have e4 := (h.2.1 t (by omega)).2.2.2.1
    rw [lsum] at hN
    simp (disch := omega) only [h.1.2.2.1, hn.1, nIle, c, c4, t4, Bool.true_eq_false, Bool.false_eq_true, false_implies, true_implies, not_true_eq_false, not_false_eq_true, and_true, true_and, nIvp, nIcl, e4, nI_add]
    exact hN
theorem c_leftTogether {j : Nat} {Q : Int32 → II → Prop} (h : BK s I j f) (hf : WF f) (hq : Q (lsum f (tn f)) I) : wp_X1_leftTogether j I Q :=
  c_lt_loop (k := fun x1 I => Q x1 I) h hf hq (tn f) 0 (by omega)
theorem m_la_loop {b : Nat} {Q : Int32 → II → Prop} {k : Int32 → II → Prop} (hb : b ≤ 1323) (hf : WF f) (hk : k (lsum f (tn f)) (pT I b f)) : ∀ (d t : Nat), t + d = tn f → ∃ N, wp_X8_leftAt_4 Q k N (nI b) (lsum f t) (nI t) (pT I b f) := by
  have hn := hf.n
  have g0 : b + 0 < 1372 := by omega
  intro d
  induction d with
  | zero =>
    intro t ht
    refine ⟨1, ?_⟩
    rw [wp_X8_leftAt_4.eq_2]
    have c : tn f ≤ t := by omega
    have e : t = tn f := by omega
    simp (disch := omega) only [nI_add, Nat.add_assoc, nIvp, nIcl, pT_get, g0, hn.1, nIle, c, Bool.true_eq_false, Bool.false_eq_true, false_implies, true_implies, not_true_eq_false, not_false_eq_true, and_true, true_and]
    rw [e]; exact hk
  | succ d ih =>
    intro t ht
    obtain ⟨N, hN⟩ := ih (t + 1) (by omega)
    refine ⟨N + 1, ?_⟩
    rw [wp_X8_leftAt_4.eq_2]
    have c : ¬ tn f ≤ t := by omega
    have g4 : b + (41 + t) < 1372 := by omega
    rw [lsum] at hN
    simp (disch := omega) only [nI_add, Nat.add_assoc, nIvp, nIcl, pT_get, g0, g4, hn.1, nIle, c, Bool.true_eq_false, Bool.false_eq_true, false_implies, true_implies, not_true_eq_false, not_false_eq_true, and_true, true_and]
    exact hN
theorem m_leftAt {b : Nat} {Q : Int32 → II → Prop} (hb : b ≤ 1323) (hf : WF f) (hq : Q (lsum f (tn f)) (pT I b f)) : wp_X8_leftAt (nI b) (pT I b f) Q :=
  m_la_loop (k := fun x2 I => Q x2 I) hb hf hq (tn f) 0 (by omega)
theorem dwT_wf : ∀ d g x, WF g → WF (dwT d g x) := by
  intro d
  induction d with
  | zero => intro g x h; exact h
  | succ d ih => intro g x h; rw [dwT]; exact ih _ _ (h.cm _).pass
end DRAWN
theorem s_drawn (x1 x2 x3 : Int32) : SIM (wp_X7_drawn x1 x2 x3) (wp_X8_drawn x1 x2 x3) := by
  refine SIM.qr (fun I f v hf hz c m => ?_)
  have i2 : ((¬ x2 < nI 1) ∧ ¬ nI 999999 < x2) ↔ inB 1 999999 x2 = true := by
    unfold inB
    rw [Bool.and_eq_true, decide_eq_true_eq, decide_eq_true_eq, i32_le, i32_le]
  unfold wp_X7_drawn wp_X8_drawn
  by_cases h0 : 0 < tn f
  · by_cases ha : inB 0 60 x1 = true ∧ inB 1 999999 x2 = true ∧ inB 0 1 x3 = true
    · obtain ⟨e1, e2, e3⟩ := ha
      obtain ⟨n, -, hn, rfl⟩ := inB_of (by omega) (by omega) e1
      obtain ⟨sd, hs1, hs, rfl⟩ := inB_of (by omega) (by omega) e2
      have wd := dwT_wf n f sd hf
      have e2' := i2.mpr e2
      refine ⟨if x3 = 0 then dwT n f sd 5 - f 5 else lsum (dwT n f sd) (tn (dwT n f sd)), fun Q hQ => ?_, fun J Q hJ mj hQ => ?_⟩
      · rw [c_isThere c hf, decide_eq_true h0, i1_0, k_isForetold, e1, i1_0, k_isChoice, e3, i1_0]
        simp only [Bool.true_eq_false, Bool.false_eq_true, false_implies, true_implies, not_true_eq_false, not_false_eq_true, and_true, true_and, e2'.1, e2'.2]
        unfold wp_X2_weeks
        refine c_takeAll (by omega) (fun J hJ => ⟨n + 1, ?_⟩)
        rw [nI_l (by omega)]
        refine c_wk2_loop (s := True) (I := I) (g0 := dwT n f sd) (by omega) (fun K kb ko => ?_) n 0 f sd J (by omega) (by omega) hf h0 rfl (hJ.bk c hf.n.2 hf.w.2) hJ.2.2.2
        have fr := FRA.out (j := 2) (by omega) ko
        refine ⟨fun e => ?_, fun e => ?_⟩
        · rw [if_neg e] at hQ
          exact c_leftTogether kb wd (hQ K fr)
        · rw [if_pos e] at hQ
          rw [kb.1.2.2.2.2.2.2.1, ko (8 * 0) (by omega), c.1.2.2.2.2.2.2.1]
          exact hQ K fr
      · rw [mj.2, decide_eq_true h0, i1_0, m_inE _ _ _ _ _ (by omega) (by omega), e1, i1_0, m_inE _ _ _ _ _ (by omega) (by omega), e2, i1_0, m_inE _ _ _ _ _ (by omega) (by omega), e3, i1_0]
        simp only [Bool.true_eq_false, Bool.false_eq_true, false_implies, true_implies, not_true_eq_false, not_false_eq_true, and_true, true_and]
        refine m_layTried hf mj.1 (by omega) ?_
        rw [nI_l (by omega)]
        refine m_dw_loop (I := J) (g0 := dwT n f sd) (by omega) ?_ n 0 f sd (by omega) (by omega) hf rfl
        have fr := FRA.pT J (dwT n f sd)
        refine ⟨fun e => ?_, fun e => ?_⟩
        · rw [if_neg e] at hQ
          exact m_leftAt (by omega) wd (hQ _ fr)
        · rw [if_pos e] at hQ
          have a1 : pT J 1323 (dwT n f sd) 316 1328 = dwT n f sd 5 := by rw [show 1328 = 1323 + 5 by omega, pT_get (by omega)]
          have a2 : pT J 1323 (dwT n f sd) 316 5 = f 5 := (mj.pT _).1 5 (by omega)
          simp (disch := omega) only [nIvp, nIcl, a1, a2]
          exact ⟨by omega, by omega, hQ _ fr⟩
    · refine ⟨-nI 1000001, fun Q hQ => ?_, fun J Q hJ mj hQ => ?_⟩
      · have q0 := hQ I (FRA.rf I)
        rw [c_isThere c hf, decide_eq_true h0, i1_0, k_isForetold]
        simp only [Bool.true_eq_false, Bool.false_eq_true, false_implies, true_implies, not_true_eq_false, not_false_eq_true, and_true, true_and]
        refine gd (fun _ => q0) (fun e1 => ⟨fun _ => q0, fun e2 => ⟨fun _ => q0, fun e3 => ?_⟩⟩)
        rw [k_isChoice]
        exact gd' (fun _ => q0) (fun e4 => absurd ⟨e1, i2.mp ⟨e2, e3⟩, e4⟩ ha)
      · have q0 := hQ J (FRA.rf J)
        rw [mj.2, decide_eq_true h0, i1_0, m_inE _ _ _ _ _ (by omega) (by omega)]
        simp only [Bool.true_eq_false, Bool.false_eq_true, false_implies, true_implies, not_true_eq_false, not_false_eq_true, and_true, true_and]
        refine gd (fun _ => q0) (fun e1 => ?_)
        rw [m_inE _ _ _ _ _ (by omega) (by omega)]
        refine gd (fun _ => q0) (fun e2 => ?_)
        rw [m_inE _ _ _ _ _ (by omega) (by omega)]
        exact gd' (fun _ => q0) (fun e4 => absurd ⟨e1, e2, e4⟩ ha)
  · refine ⟨-nI 1000002, fun Q hQ => ?_, fun J Q hJ mj hQ => ?_⟩
    · rw [c_isThere c hf, decide_eq_false h0, i1_0]; simp only [Bool.true_eq_false, Bool.false_eq_true, false_implies, true_implies, not_true_eq_false, not_false_eq_true, and_true, true_and]; exact hQ I (FRA.rf I)
    · rw [mj.2, decide_eq_false h0, i1_0]; simp only [Bool.true_eq_false, Bool.false_eq_true, false_implies, true_implies, not_true_eq_false, not_false_eq_true, and_true, true_and]; exact hQ J (FRA.rf J)

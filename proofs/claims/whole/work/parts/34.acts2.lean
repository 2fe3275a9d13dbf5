/-! ===== pure: dismiss, swap, undo, image, restore ===== -/
theorem INV.fin {I J K : II} {f g : TW} {sz lt lt' : Nat} {h : Nat → TW} (v : INV I) (p : PH f sz h) (h0 : 0 < tn f) (jc : AC J g (upZ sz) lt' (shH f h)) (j9 : J 308 9 = nI 0) (j10 : J 308 10 = nI 0) (jf : ∀ a k, ¬ (a < 8 ∨ (40 ≤ a ∧ a < 232) ∨ a = 303 ∨ a = 308) → J a k = I a k) (kk : AM K f (upZ sz) (shH f h)) (kf : ∀ a k, ¬ (a = 316 ∧ 49 ≤ k ∧ k < 1225) → ¬ (a = 315 ∧ k = 2) → K a k = J a k) (wg : WF g) (eg : tn g = tn f) : INV (pT K 0 g) := by
  have fr : ∀ a k, ¬ (a = 316 ∧ k < 1225) → ¬ (a = 315 ∧ k = 2) → pT K 0 g a k = J a k := fun a k a1 a2 => by
    by_cases ha : a = 316
    · subst ha; rw [pT_row (by omega), kf _ _ (by omega) a2]
    · rw [pT_oth ha, kf _ _ (by omega) a2]
  refine v.act (fun a k a1 a2 => ?_) ((p.act h0).new wg (by omega)) (jc.fr (fun a ha => funext fun k => fr a k (by omega) (by omega))) (kk.put (upZ_le _) eg) ⟨by rw [fr _ _ (by omega) (by omega)]; exact j9, by rw [fr _ _ (by omega) (by omega)]; exact j10⟩ (by omega)
  rw [fr a k (fun z => a1 (by unfold dA; omega)) (fun z => a1 (by unfold dA; omega)), jf a k (fun z => a1 (by unfold dA; omega))]
theorem s_dismiss : SIM wp_X7_dismiss wp_X8_dismiss := by
  intro I v
  obtain ⟨f, sz, lt, h, p, c, m⟩ := v.ok
  have w7 := p.1.w.2
  have e7 : I 316 7 = nI (tw f) := by rw [m.1 7 (by omega), p.1.w.1]
  unfold wp_X7_dismiss
  rw [c.1.1.2.2.2.2.2.2.2, p.1.w.1, nIe0 (by omega)]
  by_cases c0 : tw f = 0
  · simp only [c0, Bool.true_eq_false, Bool.false_eq_true, false_implies, true_implies, not_true_eq_false, not_false_eq_true, and_true, true_and]
    unfold wp_X8_dismiss
    rw [m.2.2.1, i1_0]
    simp (disch := omega) only [nIvp, nIcl, e7, nIe0, c0, Bool.true_eq_false, Bool.false_eq_true, false_implies, true_implies, not_true_eq_false, not_false_eq_true, and_true, true_and]
    exact ⟨fun _ => v, fun _ => ⟨by omega, v⟩⟩
  · simp only [c0, Bool.true_eq_false, Bool.false_eq_true, false_implies, true_implies, not_true_eq_false, not_false_eq_true, and_true, true_and]
    have h0 : 0 < tn f := by
      rcases Nat.eq_zero_or_pos (tn f) with q | q
      · exact absurd (p.2.1 q) c0
      · exact q
    refine c_begin p c (fun J jc j9 j10 jf => ?_)
    simp only [forall_eq]
    rw [jc.1.1.2.2.2.2.2.2.1]
    have hb := jc.1.num 6 5 (f 5 + nI 1) (by omega)
    have wu : WF (upd f 5 (f 5 + nI 1)) := p.1.ch (fun q hq => upd_ne (by omega)) (fun t ht => by rw [upd_ne (by omega)]; exact (p.1.te ht).2.2.2)
    have eq0 : tq (upd f 5 (f 5 + nI 1)) 0 = tq f 0 := by rw [tq, tq, upd_ne (by omega)]
    have ew : tw (upd f 5 (f 5 + nI 1)) = tw f := by rw [tw, tw, upd_ne (by omega)]
    refine c_leave hb wu (pl := 0) (by omega) (fun L lb lo => ?_)
    rw [eq0]
    have lf : ∀ a k, ¬ (a < 8 ∨ (40 ≤ a ∧ a < 232) ∨ a = 303 ∨ a = 308) → L a k = I a k := fun a k z => by
      rw [lo a (by omega), su_cell (by omega), jf a k (by omega)]
    have lm : AM L f sz h := m.fr p.2.2.1 (fun k hk => lf _ _ (by omega)) ⟨lf _ _ (by omega), lf _ _ (by omega)⟩
    have l7 : L 316 7 = nI (tw f) := by rw [lf _ _ (by omega)]; exact e7
    unfold wp_X8_dismiss
    rw [lm.2.2.1, i1_0, decide_eq_true h0]
    simp (disch := omega) only [nIvp, nIcl, l7, nIe0, c0, Bool.true_eq_false, Bool.false_eq_true, false_implies, true_implies, not_true_eq_false, not_false_eq_true, and_true, true_and]
    refine ⟨by omega, m_keep p lm h0 (fun K kk kf => ⟨by omega, ?_⟩)⟩
    have k8 : K 316 8 = nI (tq f 0) := by rw [kk.1 8 (by omega)]; exact (p.1.q (k := 0) (by omega)).1
    have hl := m_leaveFirst (I := K) (b := 0) (f := f) (w := tw f) (Q := fun I7 => (5 < 1372 ∧ (5 < 1372 ∧ (nI (tq f 0) = K 316 8 ∧ INV (su I7 316 5 (I7 316 5 + nI 1)))))) (by omega) p.1.w.1 w7 (by omega) (by
      refine ⟨by omega, by omega, k8.symm, ?_⟩
      have g5 : pT K 0 (leaveT f (tw f)) 316 5 = f 5 := by
        have := pT_get (I := K) (b := 0) (f := leaveT f (tw f)) (k := 5) (by omega)
        rw [Nat.zero_add] at this
        rw [this, leaveT, upd_ne (by omega), mvT_oth _ _ _ (by omega)]
      rw [g5]
      have g : su (pT K 0 (leaveT f (tw f))) 316 5 (f 5 + nI 1) = pT K 0 (upd (leaveT f (tw f)) 5 (f 5 + nI 1)) := by
        have := pT_set (I := K) (b := 0) (f := leaveT f (tw f)) (v := f 5 + nI 1) (k := 5) (by omega)
        rw [Nat.zero_add] at this; exact this
      rw [g]
      have hlv : isLv (upd f 5 (f 5 + nI 1)) 0 (upd (leaveT f (tw f)) 5 (f 5 + nI 1)) := by
        obtain ⟨i1, i2, i3⟩ := isLv_leaveT f w7
        refine ⟨fun q hq => ?_, ?_, fun i hi => ?_⟩
        · by_cases e : q = 5
          · subst e; rw [upd_eq, upd_eq]
          · rw [upd_ne e, upd_ne e]; exact i1 q hq
        · rw [upd_ne (by omega), ew]; exact i2
        · rw [ew] at hi
          rw [upd_ne (by omega), upd_ne (by split <;> omega)]; exact i3 i hi
      have lb := lb _ hlv
      have ac0 : AC L (upd (leaveT f (tw f)) 5 (f 5 + nI 1)) (upZ sz) ((lt + 1) % 24) (shH f h) := (jc.put hb ((OUT.rf 0 J).su (by omega))).put lb lo
      refine v.fin (lt := lt) p h0 ac0 (by rw [lo _ (by omega), su_cell (by omega)]; exact j9) (by rw [lo _ (by omega), su_cell (by omega)]; exact j10) lf kk kf (wu.lv (pl := 0) (by omega) hlv) ?_
      rw [tn, tn, upd_ne (by omega), leaveT, upd_ne (by omega), mvT_oth _ _ _ (by omega)])
    rw [kk.self] at hl
    simp only [forall_eq]
    exact hl
theorem s_swap : SIM wp_X7_swap wp_X8_swap := by
  intro I v
  obtain ⟨f, sz, lt, h, p, c, m⟩ := v.ok
  have w7 := p.1.w.2
  have e7 : I 316 7 = nI (tw f) := by rw [m.1 7 (by omega), p.1.w.1]
  unfold wp_X7_swap
  rw [c.1.1.2.2.2.2.2.2.2, p.1.w.1, nIle (by omega) (by omega)]
  by_cases c0 : 2 ≤ tw f
  · simp only [c0, Bool.true_eq_false, Bool.false_eq_true, false_implies, true_implies, not_true_eq_false, not_false_eq_true, and_true, true_and]
    have h0 : 0 < tn f := by
      rcases Nat.eq_zero_or_pos (tn f) with q | q
      · have := p.2.1 q; omega
      · exact q
    refine c_begin p c (fun J jc j9 j10 jf => ?_)
    unfold wp_X1_swapFirst
    have j7 : J (8 * 0) 7 = nI (tw f) := by rw [jc.1.1.2.2.2.2.2.2.2, p.1.w.1]
    have cw : ¬ tw f < 2 := by omega
    have q0 := jc.1.2.2.1 0 (by omega)
    have q1 := jc.1.2.2.1 1 (by omega)
    simp (disch := omega) only [j7, nIlt, cw, Bool.true_eq_false, Bool.false_eq_true, false_implies, true_implies, not_true_eq_false, not_false_eq_true, and_true, true_and, nIvp, nIcl, forall_eq, q0, q1]
    refine ⟨by omega, by omega, by omega, by omega, by omega, ?_⟩
    generalize hL : su (su J (8 * 0 + 7) 0 (f (8 + 1))) (8 * 0 + 7) 1 (f (8 + 0)) = L
    have lo : OUT 0 J L := by rw [← hL]; exact ((OUT.rf 0 J).su (by omega)).su (by omega)
    have lf : ∀ a k, ¬ (a < 8 ∨ (40 ≤ a ∧ a < 232) ∨ a = 303 ∨ a = 308) → L a k = I a k := fun a k z => by rw [lo a (by omega), jf a k (by omega)]
    have lm : AM L f sz h := m.fr p.2.2.1 (fun k hk => lf _ _ (by omega)) ⟨lf _ _ (by omega), lf _ _ (by omega)⟩
    have l7 : L 316 7 = nI (tw f) := by rw [lf _ _ (by omega)]; exact e7
    have l70 : L (8 * 0 + 7) 0 = f (8 + 1) := by rw [← hL, su_slot (by omega), su_eq]
    have lc : ∀ k, k < tw f → L (8 * 0 + 7) k = upd (upd f 8 (f 9)) 9 (f 8) (8 + k) := fun k hk => by
      rw [← hL]
      by_cases k1 : k = 1
      · subst k1; rw [su_eq, upd_eq]
      · rw [su_slot k1, upd_ne (by omega)]
        by_cases k0 : k = 0
        · subst k0; rw [su_eq, upd_eq]
        · rw [su_slot k0, upd_ne (by omega)]; exact jc.1.2.2.1 k hk
    have lb : BK True L 0 (upd (upd f 8 (f 9)) 9 (f 8)) := by
      obtain ⟨hx, ht, hq, hk, hd⟩ := jc.1
      have o1 : ∀ a, a ≠ 8 * 0 + 7 → L a = J a := fun a ha => by rw [← hL, su_cell ha, su_cell ha]
      have en : tn (upd (upd f 8 (f 9)) 9 (f 8)) = tn f := by rw [tn, tn, upd_ne (by omega), upd_ne (by omega)]
      have ew : tw (upd (upd f 8 (f 9)) 9 (f 8)) = tw f := by rw [tw, tw, upd_ne (by omega), upd_ne (by omega)]
      have u : ∀ q, q ≠ 8 → q ≠ 9 → upd (upd f 8 (f 9)) 9 (f 8) q = f q := fun q a b => by rw [upd_ne b, upd_ne a]
      refine ⟨?_, fun t h => ?_, fun k h => ?_, fun p h => ?_, fun p h g => ?_⟩
      · rw [o1 _ (by omega), u 0 (by omega) (by omega), u 1 (by omega) (by omega), u 2 (by omega) (by omega), u 3 (by omega) (by omega), u 4 (by omega) (by omega), u 5 (by omega) (by omega), u 6 (by omega) (by omega), u 7 (by omega) (by omega)]; exact hx
      · rw [en] at h
        rw [o1 _ (by omega), o1 _ (by omega), o1 _ (by omega), o1 _ (by omega), o1 _ (by omega), u _ (by omega) (by omega), u _ (by omega) (by omega), u _ (by omega) (by omega), u _ (by omega) (by omega), u _ (by omega) (by omega)]
        exact ht t h
      · rw [ew] at h; exact lc k h
      · rw [o1 _ (by omega), u _ (by omega) (by omega)]; exact hk p h
      · rw [u _ (by omega) (by omega)] at g
        rw [o1 _ (by omega), o1 _ (by omega), u _ (by omega) (by omega), u _ (by omega) (by omega)]; exact hd p h g
    have wg : WF (upd (upd f 8 (f 9)) 9 (f 8)) := by
      have u : ∀ q, q ≠ 8 → q ≠ 9 → upd (upd f 8 (f 9)) 9 (f 8) q = f q := fun q a b => by rw [upd_ne b, upd_ne a]
      have en : tn (upd (upd f 8 (f 9)) 9 (f 8)) = tn f := by rw [tn, tn, u 0 (by omega) (by omega)]
      have ew : tw (upd (upd f 8 (f 9)) 9 (f 8)) = tw f := by rw [tw, tw, u 7 (by omega) (by omega)]
      have ix : ∀ k, k < tw f → (if k = 0 then 1 else if k = 1 then 0 else k) < tw f := fun k hk => by
        by_cases k0 : k = 0
        · rw [if_pos k0]; omega
        · rw [if_neg k0]
          split <;> omega
      have qv : ∀ k, k < tw f → upd (upd f 8 (f 9)) 9 (f 8) (8 + k) = f (8 + (if k = 0 then 1 else if k = 1 then 0 else k)) := fun k hk => by
        by_cases k0 : k = 0
        · subst k0; rw [upd_ne (by omega), upd_eq]; rfl
        · by_cases k1 : k = 1
          · subst k1; rw [upd_eq]; rfl
          · rw [u _ (by omega) (by omega), if_neg k0, if_neg k1]
      have qt : ∀ k, k < tw f → tq (upd (upd f 8 (f 9)) 9 (f 8)) k = tq f (if k = 0 then 1 else if k = 1 then 0 else k) := fun k hk => by rw [tq, tq, qv k hk]
      have n4 := p.1.n.2
      refine ⟨⟨?_, by omega⟩, ⟨?_, by omega⟩, fun k hk => ?_, fun i k hi hk e => ?_, fun q hq => ?_, fun k hk => ?_, fun q hq hk => ?_, fun t ht => ?_, fun h0 => ?_⟩
      · rw [en, u 0 (by omega) (by omega)]; exact p.1.n.1
      · rw [ew, u 7 (by omega) (by omega)]; exact p.1.w.1
      · rw [ew] at hk; rw [qv k hk, qt k hk]; exact p.1.q (ix k hk)
      · rw [ew] at hi hk
        rw [qt i hi, qt k hk] at e
        have := p.1.dist (ix i hi) (ix k hk) e
        by_cases a0 : i = 0 <;> by_cases a1 : i = 1 <;> by_cases b0 : k = 0 <;> by_cases b1 : k = 1 <;> simp [a0, a1, b0, b1] at this <;> omega
      · rw [u _ (by omega) (by omega)]; exact p.1.dr hq
      · rw [ew] at hk
        have := (p.1.q (ix k hk)).2
        rw [qt k hk, u _ (by omega) (by omega)]; exact p.1.kn (ix k hk)
      · rw [u _ (by omega) (by omega)] at hk
        rw [u _ (by omega) (by omega)]; exact p.1.sm hq hk
      · rw [en] at ht
        rw [u _ (by omega) (by omega), u _ (by omega) (by omega), u _ (by omega) (by omega), u _ (by omega) (by omega)]; exact p.1.te ht
      · rw [en] at h0
        rw [u _ (by omega) (by omega), u _ (by omega) (by omega)]; exact p.1.wk h0
    rw [l70]
    unfold wp_X8_swap
    rw [lm.2.2.1, i1_0, decide_eq_true h0]
    simp (disch := omega) only [nIvp, nIcl, l7, nIle, c0, Bool.true_eq_false, Bool.false_eq_true, false_implies, true_implies, not_true_eq_false, not_false_eq_true, and_true, true_and]
    refine ⟨by omega, m_keep p lm h0 (fun K kk kf => ?_)⟩
    have k8 := kk.1 8 (by omega)
    have k9 := kk.1 9 (by omega)
    simp (disch := omega) only [nIvp, nIcl, k8, k9, forall_eq]
    have e1 : su (su K 316 8 (f 9)) 316 9 (f 8) = pT K 0 (upd (upd f 8 (f 9)) 9 (f 8)) := by
      rw [m_set0 kk (by omega)]
      have := pT_set (I := K) (b := 0) (f := upd f 8 (f 9)) (v := f 8) (k := 9) (by omega)
      rw [Nat.zero_add] at this; exact this
    rw [e1]
    refine ⟨by omega, by omega, by omega, by omega, by omega, ?_, v.fin (lt := lt) p h0 (jc.put lb lo) (by rw [lo _ (by omega)]; exact j9) (by rw [lo _ (by omega)]; exact j10) lf kk kf wg ?_⟩
    · have := pT_get (I := K) (b := 0) (f := upd (upd f 8 (f 9)) 9 (f 8)) (k := 8) (by omega)
      rw [Nat.zero_add] at this
      rw [this, upd_ne (by omega), upd_eq]
    · rw [tn, tn, upd_ne (by omega), upd_ne (by omega)]
  · simp only [c0, Bool.true_eq_false, Bool.false_eq_true, false_implies, true_implies, not_true_eq_false, not_false_eq_true, and_true, true_and]
    unfold wp_X8_swap
    rw [m.2.2.1, i1_0]
    simp (disch := omega) only [nIvp, nIcl, e7, nIle, c0, Bool.true_eq_false, Bool.false_eq_true, false_implies, true_implies, not_true_eq_false, not_false_eq_true, and_true, true_and]
    exact ⟨fun _ => v, fun _ => ⟨by omega, v⟩⟩
theorem s_undo : SIM wp_X7_undo wp_X8_undo := by
  intro I v
  obtain ⟨f, sz, lt, h, p, c, m⟩ := v.ok
  have s24 := p.2.2.1
  have s4 := c.2.2.2.1
  unfold wp_X7_undo
  rw [c.2.1, nIe0 (by omega)]
  by_cases c0 : sz = 0
  · simp only [c0, Bool.true_eq_false, Bool.false_eq_true, false_implies, true_implies, not_true_eq_false, not_false_eq_true, and_true, true_and]
    unfold wp_X8_undo
    rw [m.2.1, nIe0 (by omega)]
    simp only [c0, Bool.true_eq_false, Bool.false_eq_true, false_implies, true_implies, not_true_eq_false, not_false_eq_true, and_true, true_and]; exact v
  · simp only [c0, Bool.true_eq_false, Bool.false_eq_true, false_implies, true_implies, not_true_eq_false, not_false_eq_true, and_true, true_and]
    unfold wp_X3_goBack
    have l24 : lt < 24 := s4
    rw [c.2.1, c.2.2.1, nIe0 (by omega)]
    simp (disch := omega) only [c0, Bool.true_eq_false, Bool.false_eq_true, false_implies, true_implies, not_true_eq_false, not_false_eq_true, and_true, true_and, nIvp, nIcl, l24]
    have hh := p.2.2.2.2 0 (by omega)
    have hb := c.2.2.2.2 0 (by omega)
    have e0 : (lt + 24 - 0) % 24 = lt := by omega
    rw [e0] at hb
    have n4 := hh.1.n.2
    have w7 := hh.1.w.2
    refine c_takeAll (by omega) (fun J hJ => ⟨by decide, ?_⟩)
    have jb := hJ.bk hb n4 w7
    have jo := hJ.2.2.2
    have j1 : J 303 1 = nI lt := by rw [jo _ (by omega)]; exact c.2.2.1
    have j2 : J 303 2 = nI sz := by rw [jo _ (by omega)]; exact c.2.1
    have e1 : nI lt + nI 24 - nI 1 - (nI lt + nI 24 - nI 1) / nI 24 * nI 24 = nI ((lt + 23) % 24) := by
      rw [nI_add, nIsub (by omega), pk_rem (by omega) (by omega) (by omega)]; congr 1
    have j2' : su J 303 1 (nI ((lt + 23) % 24)) 303 2 = nI sz := by rw [su_slot (by omega)]; exact j2
    rw [j1, e1]
    simp only [forall_eq, j2']
    rw [nIsub (by omega)]
    refine c_forget (fun K k9 k10 kf => ?_)
    have k2 : K 303 2 = nI (sz - 1) := by rw [kf _ _ (by omega), su_eq]
    have kl : K 303 1 = nI ((lt + 23) % 24) := by rw [kf _ _ (by omega), su_slot (by omega), su_eq]
    have ka : ∀ a, a ≠ 303 → a ≠ 308 → K a = J a := fun a a1 a2 => funext fun k => by rw [kf a k (by omega), su_cell a1, su_cell a1]
    have kI : ∀ a k, ¬ (a < 8 ∨ a = 303 ∨ a = 308) → K a k = I a k := fun a k z => by rw [ka a (by omega) (by omega), jo a (by omega)]
    have kc : AC K (h 0) (sz - 1) ((lt + 23) % 24) (fun i => h (i + 1)) := by
      refine ⟨jb.fr (fun a a1 a2 => ka a (by omega) (by omega)), k2, kl, Nat.mod_lt _ (by omega), fun i hi => ?_⟩
      have e5 : ((lt + 23) % 24 + 24 - i) % 24 = (lt + 24 - (i + 1)) % 24 := by omega
      rw [e5]
      exact (c.2.2.2.2 (i + 1) (by omega)).fr (fun a a1 a2 => funext fun k => kI a k (by omega))
    have km : AM K f sz h := m.fr p.2.2.1 (fun k hk => kI _ _ (by omega)) ⟨kI _ _ (by omega), kI _ _ (by omega)⟩
    rw [k2]
    unfold wp_X8_undo
    rw [km.2.1, nIe0 (by omega), nIsub (by omega)]
    have e6 : nI 49 + nI 49 * nI (sz - 1) = nI (49 + 49 * (sz - 1)) := by rw [pk_mul, nI_add]
    simp only [c0, Bool.true_eq_false, Bool.false_eq_true, false_implies, true_implies, not_true_eq_false, not_false_eq_true, and_true, true_and, forall_eq, su_eq, e6]
    refine m_copyTown (a := 49 + 49 * (sz - 1)) (b := 0) (f := h 0) (by omega) (by omega) (by omega) (fun q hq => by
      rw [su_cell (by omega)]
      have := km.2.2.2 0 (by omega) q hq
      rw [Nat.sub_zero] at this; exact this) ?_
    have fr : ∀ a k, ¬ (a = 316 ∧ k < 49) → ¬ (a = 315 ∧ k = 2) → pT (su K 315 2 (nI (sz - 1))) 0 (h 0) a k = K a k := fun a k a1 a2 => by
      by_cases ha : a = 316
      · subst ha; rw [pT_row (by omega), su_cell (by omega)]
      · rw [pT_oth ha, su2 a2]
    refine ⟨by rw [pT_oth (by omega), su_eq], ?_⟩
    have d0 := p.2.2.2.1 (by omega)
    refine v.act (f := h 0) (sz := sz - 1) (h := fun i => h (i + 1)) (fun a k a1 a2 => ?_) ⟨hh.1, fun q => by omega, by omega, fun _ => hh.2, fun i hi => p.2.2.2.2 (i + 1) (by omega)⟩ (kc.fr (fun a ha => funext fun k => fr a k (by omega) (by omega))) ⟨fun q hq => ?_, ?_, ?_, fun i hi q hq => ?_⟩ ⟨by rw [fr _ _ (by omega) (by omega)]; exact k9, by rw [fr _ _ (by omega) (by omega)]; exact k10⟩ hh.2
    · rw [fr a k (fun z => a1 (by unfold dA; omega)) (fun z => a1 (by unfold dA; omega)), kI a k (fun z => a1 (by unfold dA; omega))]
    · have := pT_get (I := su K 315 2 (nI (sz - 1))) (b := 0) (f := h 0) hq
      rw [Nat.zero_add] at this; exact this
    · rw [pT_oth (by omega), su_eq]
    · rw [fr _ _ (by omega) (by omega), km.2.2.1, decide_eq_true d0, decide_eq_true hh.2]
    · rw [fr _ _ (by omega) (by omega)]
      show _ = h (i + 1) q
      rw [← km.2.2.2 (i + 1) (by omega) q hq]
      congr 1; omega
theorem inB01 {x : Int32} : inB 0 1 x = (decide (¬ x < 0) && decide (¬ nI 2 ≤ x)) := by
  rcases i32_cases x with hx | ⟨n, hn, rfl⟩
  · rw [inB_neg (by omega) hx]; simp [hx]
  · rw [inB_nI (by omega) (by omega) hn]
    simp (disch := omega) only [nIlt0, nIle]
    by_cases c : n ≤ 1
    · simp [c, show ¬ 2 ≤ n by omega]
    · simp [c, show 2 ≤ n by omega]
theorem s_image (x : Int32) : SIM (wp_X7_image x) (wp_X8_image x) := by
  intro I v
  obtain ⟨f, sz, lt, h, p, c, m, o, i, r, t, ms, k⟩ := id v
  have n4 := p.1.n.2
  have w7 := p.1.w.2
  have bad : ∀ w : Int32, ((inB 0 1 x = false → w = -nI 1000001) ∧ (inB 0 1 x = true → ¬ 0 < tn f ∧ w = -nI 1000002)) → wp_X8_image x I (fun r' K => w = r' ∧ INV K) := by
    intro w hw
    unfold wp_X8_image
    rw [m_inE _ _ _ _ _ (by omega) (by omega), i1_0, m.2.2.1, i1_0]
    refine ⟨fun c1 => ⟨fun c2 => ?_, fun _ => ⟨(hw.2 (by simpa using c1)).2, v⟩⟩, fun c1 => ⟨hw.1 c1, v⟩⟩
    exact absurd (by have := c2; simp at this; omega) (hw.2 (by simpa using c1)).1
  unfold wp_X7_image
  rw [c_isThere c.1 p.1, i1_0]
  have hb : inB 0 1 x = (decide (¬ x < 0) && decide (¬ nI 2 ≤ x)) := inB01
  have e2 : (x < nI 2) = ¬ nI 2 ≤ x := by rw [i32_le, Classical.not_not]
  rw [e2, Classical.not_not]
  refine ⟨fun c1 => bad _ ⟨fun _ => rfl, fun q => absurd q (by rw [hb]; simp [c1])⟩, fun c1 => ⟨fun c2 => ⟨fun c3 => ?_, fun c3 => ?_⟩, fun c2 => bad _ ⟨fun _ => rfl, fun q => absurd q (by rw [hb]; simp [c2])⟩⟩⟩
  · have hin : inB 0 1 x = true := by rw [hb]; simp [c1, c2]
    obtain ⟨q, -, hq, rfl⟩ := inB_of (by omega) (by omega) hin
    have h0 : 0 < tn f := by have := c3; simp at this; omega
    have q2 : q < 2 := by omega
    simp (disch := omega) only [nIvp, nIcl, q2, Bool.true_eq_false, Bool.false_eq_true, false_implies, true_implies, not_true_eq_false, not_false_eq_true, and_true, true_and]
    refine c_takeAll (by omega) (fun J hJ => ?_)
    have jo := hJ.2.2.2
    have jb := hJ.bk c.1 n4 w7
    have jm : AM J f sz h := m.fr p.2.2.1 (fun k hk => by rw [jo _ (by omega)]) ⟨by rw [jo _ (by omega)], by rw [jo _ (by omega)]⟩
    unfold wp_X8_image
    rw [m_inE _ _ _ _ _ (by omega) (by omega), hin, i1_0, jm.2.2.1, decide_eq_true h0, i1_0]
    have ex : nI 1225 + nI 49 * nI q = nI (1225 + 49 * q) := by rw [pk_mul, nI_add]
    simp only [Bool.true_eq_false, Bool.false_eq_true, false_implies, true_implies, not_true_eq_false, not_false_eq_true, and_true, true_and, ex]
    refine m_copyTown (a := 0) (b := 1225 + 49 * q) (f := f) (by omega) (by omega) (by omega) (fun q hq => by rw [Nat.zero_add]; exact jm.1 q hq) ?_
    simp (disch := omega) only [nIvp, nIcl, q2, Bool.true_eq_false, Bool.false_eq_true, false_implies, true_implies, not_true_eq_false, not_false_eq_true, and_true, true_and, forall_eq]
    have fr : ∀ a k, ¬ (a = 316 ∧ 1225 + 49 * q ≤ k ∧ k < 1225 + 49 * q + 49) → ¬ (a = 317 ∧ k = q) → su (pT J (1225 + 49 * q) f) 317 q (nI 1) a k = J a k := fun a k a1 a2 => by
      rw [su2 a2]
      by_cases ha : a = 316
      · subst ha; rw [pT_row (by omega)]
      · rw [pT_oth ha]
    have frI : ∀ a k, ¬ (a = 316 ∧ 1225 + 49 * q ≤ k ∧ k < 1225 + 49 * q + 49) → ¬ (a = 317 ∧ k = q) → ¬ (8 * (3 + q) ≤ a ∧ a < 8 * (3 + q) + 8) → su (pT J (1225 + 49 * q) f) 317 q (nI 1) a k = I a k := fun a k a1 a2 a3 => by
      rw [fr a k a1 a2, jo a (by omega)]
    have frc : ∀ a, a ≠ 316 → a ≠ 317 → ¬ (24 ≤ a ∧ a < 40) → su (pT J (1225 + 49 * q) f) 317 q (nI 1) a = I a := fun a a1 a2 a3 => funext fun k => frI a k (by omega) (by omega) (by omega)
    refine ⟨f, sz, lt, h, p, c.fr (fun a ha => frc a (by omega) (by omega) (by omega)), m.fr p.2.2.1 (fun k hk => frI _ _ (by omega) (by omega) (by omega)) ⟨frI _ _ (by omega) (by omega) (by omega), frI _ _ (by omega) (by omega) (by omega)⟩, ⟨o.1.fr ⟨frc _ (by omega) (by omega) (by omega), frc _ (by omega) (by omega) (by omega)⟩, o.2.fr ⟨frc _ (by omega) (by omega) (by omega), frc _ (by omega) (by omega) (by omega)⟩⟩, fun k' hk' => ?_, r.fr (fun a ha => frc a (by omega) (by omega) (by omega)), t.fr ⟨frc _ (by omega) (by omega) (by omega), frc _ (by omega) (by omega) (by omega)⟩ ⟨frI _ _ (by omega) (by omega) (by omega), frI _ _ (by omega) (by omega) (by omega)⟩, ms.fr ⟨frI _ _ (by omega) (by omega) (by omega), frI _ _ (by omega) (by omega) (by omega), frI _ _ (by omega) (by omega) (by omega), frI _ _ (by omega) (by omega) (by omega)⟩, k.fr ⟨frc _ (by omega) (by omega) (by omega), frc _ (by omega) (by omega) (by omega)⟩ ⟨frI _ _ (by omega) (by omega) (by omega), frI _ _ (by omega) (by omega) (by omega)⟩⟩
    have e315 : su (pT J (1225 + 49 * q) f) 317 q (nI 1) 315 1 = nI 1 := by rw [frI _ _ (by omega) (by omega) (by omega), m.2.2.1, decide_eq_true h0]; rfl
    by_cases ek : k' = q
    · subst ek
      refine Or.inr ⟨su_eq _ _ _ _, e315, f, p.1, h0, fun u hu => ?_, jb.fr (fun a a1 a2 => funext fun k => fr a k (by omega) (by omega))⟩
      rw [su_cell (by omega), pT_get hu]
    · rcases i k' hk' with ⟨b1, b2⟩ | ⟨b1, b0, g, b2, b3, b4, b5⟩
      · exact Or.inl ⟨by rw [frI _ _ (by omega) (by omega) (by omega)]; exact b1, by rw [frI _ _ (by omega) (by omega) (by omega)]; exact b2⟩
      · exact Or.inr ⟨by rw [frI _ _ (by omega) (by omega) (by omega)]; exact b1, e315, g, b2, b3, fun u hu => by rw [frI _ _ (by omega) (by omega) (by omega)]; exact b4 u hu, b5.fr (fun a a1 a2 => funext fun k => frI a k (by omega) (by omega) (by omega))⟩
  · have hin : inB 0 1 x = true := by rw [hb]; simp [c1, c2]
    exact bad _ ⟨fun q => absurd q (by rw [hin]; decide), fun _ => ⟨by simpa using c3, rfl⟩⟩
theorem c_standAs {I : II} {Q : II → Prop} {j : Nat} {g : TW} (hj : j ≠ 0) (hb : BK True I j g) (hg : WF g) (hlt : ∃ lt, lt < 24 ∧ I 303 1 = nI lt) (hq : ∀ J lt, AC J g 0 lt (fun _ => g) → J 308 9 = nI 0 → J 308 10 = nI 0 → (∀ a k, ¬ (a < 8 ∨ a = 303 ∨ a = 308) → J a k = I a k) → Q J) : wp_X7_standAs j I Q := by
  obtain ⟨lt, l24, el⟩ := hlt
  unfold wp_X7_standAs
  refine c_takeAll (fun e => hj e.symm) (fun J hJ => ?_)
  have jo := hJ.2.2.2
  have jb := hJ.bk hb hg.n.2 hg.w.2
  unfold wp_X3_clear
  simp only [forall_eq]
  refine c_forget (fun K k9 k10 kf => hq K lt ⟨jb.fr (fun a a1 a2 => funext fun k => ?_), ?_, ?_, l24, fun i hi => absurd hi (by omega)⟩ k9 k10 (fun a k z => ?_))
  · rw [kf a k (by omega), su_cell (by omega)]
  · rw [kf _ _ (by omega), su_eq]
  · rw [kf _ _ (by omega), su_slot (by omega), jo _ (by omega)]; exact el
  · rw [kf a k (by omega), su_cell (by omega), jo a (by omega)]
theorem s_restore (x : Int32) : SIM (wp_X7_restore x) (wp_X8_restore x) := by
  intro I v
  obtain ⟨f, sz, lt, h, p, c, m, o, i, r, t, ms, k⟩ := id v
  unfold wp_X7_restore
  have hb : inB 0 1 x = (decide (¬ x < 0) && decide (¬ nI 2 ≤ x)) := inB01
  have e2 : (x < nI 2) = ¬ nI 2 ≤ x := by rw [i32_le, Classical.not_not]
  have bad : inB 0 1 x = false → wp_X8_restore x I (fun r' K => -nI 1000001 = r' ∧ INV K) := by
    intro hw
    unfold wp_X8_restore
    rw [m_inE _ _ _ _ _ (by omega) (by omega), hw, i1_0]
    simp only [Bool.true_eq_false, Bool.false_eq_true, false_implies, true_implies, not_true_eq_false, not_false_eq_true, and_true, true_and]; exact v
  rw [e2, Classical.not_not]
  refine ⟨fun c1 => bad (by rw [hb]; simp [c1]), fun c1 => ⟨fun c2 => ?_, fun c2 => bad (by rw [hb]; simp [c2])⟩⟩
  have hin : inB 0 1 x = true := by rw [hb]; simp [c1, c2]
  obtain ⟨q, -, hq, rfl⟩ := inB_of (by omega) (by omega) hin
  have q2 : q < 2 := by omega
  have n0 : (nI 0 : Int32) = 0 := rfl
  have n1 : ¬ (nI 1 : Int32) = 0 := by decide
  simp (disch := omega) only [nIvp, nIcl, q2, Bool.true_eq_false, Bool.false_eq_true, false_implies, true_implies, not_true_eq_false, not_false_eq_true, and_true, true_and]
  rcases i q q2 with ⟨b1, b2⟩ | ⟨b1, b0, g, b2, b3, b4, b5⟩
  · unfold wp_X1_isThere
    rw [b2]
    refine ⟨fun _ => ⟨fun q => absurd n0 q, fun _ => ?_⟩, fun q => absurd (by decide) q⟩
    unfold wp_X8_restore
    rw [m_inE _ _ _ _ _ (by omega) (by omega), hin, i1_0]
    simp (disch := omega) only [Bool.true_eq_false, Bool.false_eq_true, false_implies, true_implies, not_true_eq_false, not_false_eq_true, and_true, true_and, nIvp, nIcl, q2, b1, n0]
    exact v
  · rw [c_isThere b5 b2, decide_eq_true b3, i1_0]
    simp only [Bool.true_eq_false, Bool.false_eq_true, false_implies, true_implies, not_true_eq_false, not_false_eq_true, and_true, true_and]
    refine c_standAs (by omega) b5 b2 ⟨lt, c.2.2.2.1, c.2.2.1⟩ (fun J lt' jc j9 j10 jf => ?_)
    unfold wp_X8_restore
    rw [m_inE _ _ _ _ _ (by omega) (by omega), hin, i1_0]
    have e317 : J 317 q = nI 1 := by rw [jf _ _ (by omega)]; exact b1
    have ex : nI 1225 + nI 49 * nI q = nI (1225 + 49 * q) := by rw [pk_mul, nI_add]
    simp (disch := omega) only [Bool.true_eq_false, Bool.false_eq_true, false_implies, true_implies, not_true_eq_false, not_false_eq_true, and_true, true_and, nIvp, nIcl, q2, e317, n1, ex]
    refine m_copyTown (a := 1225 + 49 * q) (b := 0) (f := g) (by omega) (by omega) (by omega) (fun u hu => by rw [jf _ _ (by omega)]; exact b4 u hu) ?_
    simp only [forall_eq, true_and]
    have fr : ∀ a k, ¬ (a = 316 ∧ k < 49) → ¬ (a = 315 ∧ k = 2) → su (pT J 0 g) 315 2 (nI 0) a k = J a k := fun a k a1 a2 => by
      rw [su2 a2]
      by_cases ha : a = 316
      · subst ha; rw [pT_row (by omega)]
      · rw [pT_oth ha]
    refine v.act (f := g) (sz := 0) (h := fun _ => g) (fun a k a1 a2 => ?_) ⟨b2, fun z => by omega, by omega, fun z => by omega, fun i hi => by omega⟩ (jc.fr (fun a ha => funext fun k => fr a k (by omega) (by omega))) ⟨fun u hu => ?_, su_eq _ _ _ _, ?_, fun i hi => by omega⟩ ⟨by rw [fr _ _ (by omega) (by omega)]; exact j9, by rw [fr _ _ (by omega) (by omega)]; exact j10⟩ b3
    · rw [fr a k (fun z => a1 (by unfold dA; omega)) (fun z => a1 (by unfold dA; omega)), jf a k (fun z => a1 (by unfold dA; omega))]
    · have := pT_get (I := J) (b := 0) (f := g) hu
      rw [Nat.zero_add] at this
      rw [su_cell (by omega)]; exact this
    · rw [fr _ _ (by omega) (by omega), jf _ _ (by omega), b0, decide_eq_true b3]; rfl

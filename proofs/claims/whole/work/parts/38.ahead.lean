theorem s_ahead (x y : Int32) : SIM (wp_X7_ahead x y) (wp_X8_ahead x y) := by
  refine SIM.qr (fun I f v hf hz c m => ?_)
  unfold wp_X7_ahead wp_X8_ahead
  cases hb : hT f x with
  | false =>
    refine ⟨-nI 1000001, fun Q hQ => ?_, fun J Q hJ mj hQ => ?_⟩
    · rw [c_hasTeller c hf, hb, i1_0]; simp only [Bool.true_eq_false, Bool.false_eq_true, false_implies, true_implies, not_true_eq_false, not_false_eq_true, and_true, true_and]; exact hQ I (FRA.rf I)
    · rw [m_isTeller mj.1 hf, hb, i1_0]; simp only [Bool.true_eq_false, Bool.false_eq_true, false_implies, true_implies, not_true_eq_false, not_false_eq_true, and_true, true_and]; exact hQ J (FRA.rf J)
  | true =>
    obtain ⟨t, ht, rfl⟩ := hT_of hf hb
    have n4 := hf.n.2
    have h4 : t < 4 := by omega
    cases hy : inB 0 60 y with
    | false =>
      refine ⟨-nI 1000001, fun Q hQ => ?_, fun J Q hJ mj hQ => ?_⟩
      · rw [c_hasTeller c hf, hb, i1_0, k_isForetold, hy, i1_0]; simp only [Bool.true_eq_false, Bool.false_eq_true, false_implies, true_implies, not_true_eq_false, not_false_eq_true, and_true, true_and]; exact hQ I (FRA.rf I)
      · rw [m_isTeller mj.1 hf, hb, i1_0, m_inE _ _ _ _ _ (by omega) (by omega), hy, i1_0]; simp only [Bool.true_eq_false, Bool.false_eq_true, false_implies, true_implies, not_true_eq_false, not_false_eq_true, and_true, true_and]; exact hQ J (FRA.rf J)
    | true =>
      obtain ⟨n, -, hn, rfl⟩ := inB_of (by omega) (by omega) hy
      refine ⟨itF f n (41 + t), fun Q hQ => ?_, fun J Q hJ mj hQ => ?_⟩
      · rw [c_hasTeller c hf, hb, i1_0, k_isForetold, hy, i1_0]
        simp only [Bool.true_eq_false, Bool.false_eq_true, false_implies, true_implies, not_true_eq_false, not_false_eq_true, and_true, true_and]
        refine c_after c hf (by omega) (by omega) (fun J jb jo => ?_)
        have e := (jb.2.1 t (by rw [itF_n hf]; exact ht)).2.2.2.1
        simp (disch := omega) only [nIvp, nIcl, h4, e, Bool.true_eq_false, Bool.false_eq_true, false_implies, true_implies, not_true_eq_false, not_false_eq_true, and_true, true_and]
        exact hQ J (FRA.out (by omega) jo)
      · rw [m_isTeller mj.1 hf, hb, i1_0, m_inE _ _ _ _ _ (by omega) (by omega), hy, i1_0]
        simp only [Bool.true_eq_false, Bool.false_eq_true, false_implies, true_implies, not_true_eq_false, not_false_eq_true, and_true, true_and]
        refine m_layTried hf mj.1 (by omega) ?_
        have e4 : ∀ g, pT J 1323 g 316 (1364 + t) = g (41 + t) := fun g => by rw [show 1364 + t = 1323 + (41 + t) by omega, pT_get (by omega)]
        simp (disch := omega) only [nI_add, nIvp, nIcl, e4]
        exact ⟨by omega, hQ _ (FRA.pT _ _)⟩
theorem m_wt_loop {I : II} {g : TW} {Q : Int32 → II → Prop} {k : Int32 → II → Prop} (hg : WF g) (hk : k (qbT g (tw g)) (pT I 1323 g)) : ∀ (d t : Nat), t + d = tw g → ∃ N, wp_X8_waiting_34 Q k N (qbT g t) (nI t) (pT I 1323 g) := by
  have hw := hg.w
  have e7 : pT I 1323 g 316 1330 = nI (tw g) := by rw [show 1330 = 1323 + 7 by omega, pT_get (by omega), hw.1]
  have g7 : 1330 < 1372 := by omega
  intro d
  induction d with
  | zero =>
    intro t ht
    refine ⟨1, ?_⟩
    rw [wp_X8_waiting_34.eq_2]
    have c : tw g ≤ t := by omega
    have e : t = tw g := by omega
    simp (disch := omega) only [nIvp, nIcl, g7, e7, nIle, c, Bool.true_eq_false, Bool.false_eq_true, false_implies, true_implies, not_true_eq_false, not_false_eq_true, and_true, true_and]
    rw [e]; exact hk
  | succ d ih =>
    intro t ht
    obtain ⟨N, hN⟩ := ih (t + 1) (by omega)
    refine ⟨N + 1, ?_⟩
    rw [wp_X8_waiting_34.eq_2]
    have c : ¬ tw g ≤ t := by omega
    have e8 : pT I 1323 g 316 (1331 + t) = g (8 + t) := by rw [show 1331 + t = 1323 + (8 + t) by omega, pT_get (by omega)]
    have g8 : 1331 + t < 1372 := by omega
    simp (disch := omega) only [nIvp, nIcl, nI_add, g7, g8, e7, e8, nIle, c, Bool.true_eq_false, Bool.false_eq_true, false_implies, true_implies, not_true_eq_false, not_false_eq_true, and_true, true_and]
    exact hN
theorem s_waiting (x : Int32) : SIM (wp_X7_waiting x) (wp_X8_waiting x) := by
  refine SIM.qr (fun I f v hf hz c m => ?_)
  unfold wp_X7_waiting wp_X8_waiting
  by_cases h0 : 0 < tn f
  · cases hy : inB 0 60 x with
    | false =>
      refine ⟨-nI 1000001, fun Q hQ => ?_, fun J Q hJ mj hQ => ?_⟩
      · rw [c_isThere c hf, decide_eq_true h0, i1_0, k_isForetold, hy, i1_0]; simp only [Bool.true_eq_false, Bool.false_eq_true, false_implies, true_implies, not_true_eq_false, not_false_eq_true, and_true, true_and]; exact hQ I (FRA.rf I)
      · rw [mj.2, decide_eq_true h0, i1_0, m_inE _ _ _ _ _ (by omega) (by omega), hy, i1_0]; simp only [Bool.true_eq_false, Bool.false_eq_true, false_implies, true_implies, not_true_eq_false, not_false_eq_true, and_true, true_and]; exact hQ J (FRA.rf J)
    | true =>
      obtain ⟨n, -, hn, rfl⟩ := inB_of (by omega) (by omega) hy
      have hg := itF_wf hf n
      refine ⟨qbT (itF f n) (tw (itF f n)), fun Q hQ => ?_, fun J Q hJ mj hQ => ?_⟩
      · rw [c_isThere c hf, decide_eq_true h0, i1_0, k_isForetold, hy, i1_0]
        simp only [Bool.true_eq_false, Bool.false_eq_true, false_implies, true_implies, not_true_eq_false, not_false_eq_true, and_true, true_and]
        refine c_after c hf (by omega) (by omega) (fun J jb jo => ?_)
        exact c_queuedBits jb hg (hQ J (FRA.out (by omega) jo))
      · rw [mj.2, decide_eq_true h0, i1_0, m_inE _ _ _ _ _ (by omega) (by omega), hy, i1_0]
        simp only [Bool.true_eq_false, Bool.false_eq_true, false_implies, true_implies, not_true_eq_false, not_false_eq_true, and_true, true_and]
        refine m_layTried hf mj.1 (by omega) ?_
        exact m_wt_loop (k := fun x2 I => Q x2 I) hg (hQ _ (FRA.pT _ _)) (tw (itF f n)) 0 (by omega)
  · refine ⟨-nI 1000002, fun Q hQ => ?_, fun J Q hJ mj hQ => ?_⟩
    · rw [c_isThere c hf, decide_eq_false h0, i1_0]; simp only [Bool.true_eq_false, Bool.false_eq_true, false_implies, true_implies, not_true_eq_false, not_false_eq_true, and_true, true_and]; exact hQ I (FRA.rf I)
    · rw [mj.2, decide_eq_false h0, i1_0]; simp only [Bool.true_eq_false, Bool.false_eq_true, false_implies, true_implies, not_true_eq_false, not_false_eq_true, and_true, true_and]; exact hQ J (FRA.rf J)
theorem plS_in {f : TW} {x : Int32} : ∀ w, plS f x w = (-nI 1000000) ∨ ∃ k, k < w ∧ plS f x w = nI k := by
  intro w
  induction w with
  | zero => exact Or.inl rfl
  | succ w ih =>
    rw [plS]
    split
    · exact Or.inr ⟨w, by omega, rfl⟩
    · rcases ih with e | ⟨k, h1, h2⟩
      · exact Or.inl e
      · exact Or.inr ⟨k, by omega, h2⟩
theorem c_so_loop {s : Prop} {I : II} {f : TW} {Q : Int32 → II → Prop} {k : Int32 → II → Prop} {n : Nat} (hf : WF f) (h0 : 0 < tn f) (hn : n + 1 < 2147483648) (hk : ∀ J, OUT 2 I J → k (passR (itF f n)) J) : ∀ (d t : Nat) (J : II) (r : Int32), t + d = n + 1 → (0 < t → r = passR (itF f (t - 1))) → BK s J 2 (itF f t) → OUT 2 I J → wp_X2_serverOf_21 0 Q k (d + 1) (nI n) r (nI t) J := by
  intro d
  induction d with
  | zero =>
    intro t J r ht hr hb ho
    rw [wp_X2_serverOf_21.eq_2]
    have c : n < t := by omega
    simp (disch := omega) only [nIlt, c, Bool.true_eq_false, Bool.false_eq_true, false_implies, true_implies, not_true_eq_false, not_false_eq_true, and_true, true_and]
    rw [hr (by omega), show t - 1 = n by omega]
    exact hk J ho
  | succ d ih =>
    intro t J r ht hr hb ho
    have c : ¬ n < t := by omega
    rw [wp_X2_serverOf_21.eq_2]
    simp (disch := omega) only [nIlt, c, Bool.true_eq_false, Bool.false_eq_true, false_implies, true_implies, not_true_eq_false, not_false_eq_true, and_true, true_and]
    refine c_passTurn hb (itF_wf hf t) (by rw [itF_n hf]; exact h0) (fun K kb ko => ?_)
    rw [nI_add]
    exact ih (t + 1) K _ (by omega) (fun _ => by rw [Nat.add_sub_cancel]) kb (ho.tr ko)
theorem s_server (x : Int32) : SIM (wp_X7_server x) (wp_X8_server x) := by
  refine SIM.qr (fun I f v hf hz c m => ?_)
  unfold wp_X7_server wp_X8_server
  have w7 := hf.w.2
  cases hb : kpT f x with
  | false =>
    refine ⟨-nI 1000001, fun Q hQ => ?_, fun J Q hJ mj hQ => ?_⟩
    · rw [c_knows c, hb, i1_0]; simp only [Bool.true_eq_false, Bool.false_eq_true, false_implies, true_implies, not_true_eq_false, not_false_eq_true, and_true, true_and]; exact hQ I (FRA.rf I)
    · rw [m_isPaper mj.1, hb, i1_0]; simp only [Bool.true_eq_false, Bool.false_eq_true, false_implies, true_implies, not_true_eq_false, not_false_eq_true, and_true, true_and]; exact hQ J (FRA.rf J)
  | true =>
    rcases plS_in (f := f) (x := x) (tw f) with e | ⟨n, hn, e⟩
    · refine ⟨-nI 1000002, fun Q hQ => ?_, fun J Q hJ mj hQ => ?_⟩
      · rw [c_knows c, hb, i1_0]
        simp only [Bool.true_eq_false, Bool.false_eq_true, false_implies, true_implies, not_true_eq_false, not_false_eq_true, and_true, true_and]
        refine c_placeOf c hf ?_
        rw [e]; simp only [Bool.true_eq_false, Bool.false_eq_true, false_implies, true_implies, not_true_eq_false, not_false_eq_true, and_true, true_and]; exact hQ I (FRA.rf I)
      · rw [m_isPaper mj.1, hb, i1_0]
        simp only [Bool.true_eq_false, Bool.false_eq_true, false_implies, true_implies, not_true_eq_false, not_false_eq_true, and_true, true_and]
        refine m_placeOf mj.1 hf ?_
        rw [e]; simp only [Bool.true_eq_false, Bool.false_eq_true, false_implies, true_implies, not_true_eq_false, not_false_eq_true, and_true, true_and]; exact hQ J (FRA.rf J)
    · have eN : ¬ nI n = (-nI 1000000) := by rw [nIneg (by omega) (by omega) (by omega)]; exact not_false
      have h0 : 0 < tn f := by
        by_cases z : tn f = 0
        · have := hz z; omega
        · omega
      refine ⟨passR (itF f n), fun Q hQ => ?_, fun J Q hJ mj hQ => ?_⟩
      · rw [c_knows c, hb, i1_0]
        simp only [Bool.true_eq_false, Bool.false_eq_true, false_implies, true_implies, not_true_eq_false, not_false_eq_true, and_true, true_and]
        refine c_placeOf c hf ?_
        rw [e]
        simp only [eN, Bool.true_eq_false, Bool.false_eq_true, false_implies, true_implies, not_true_eq_false, not_false_eq_true, and_true, true_and]
        unfold wp_X2_serverOf
        refine c_placeOf c hf ?_
        rw [e]
        refine c_takeAll (by omega) (fun J hJ => ⟨n + 1 + 1, ?_⟩)
        exact c_so_loop (s := True) (I := I) (k := fun x4 I => Q x4 I) hf h0 (by omega) (fun J jo => hQ J (FRA.out (by omega) jo)) (n + 1) 0 J _ (by omega) (fun z => absurd z (by omega)) (hJ.bk c hf.n.2 w7) hJ.2.2.2
      · rw [m_isPaper mj.1, hb, i1_0]
        simp only [Bool.true_eq_false, Bool.false_eq_true, false_implies, true_implies, not_true_eq_false, not_false_eq_true, and_true, true_and]
        refine m_placeOf mj.1 hf ?_
        rw [e]
        simp only [eN, Bool.true_eq_false, Bool.false_eq_true, false_implies, true_implies, not_true_eq_false, not_false_eq_true, and_true, true_and]
        refine m_layTried hf mj.1 (by omega) ?_
        exact m_pass (by omega) (itF_wf hf n) (hQ _ (FRA.pT _ _))
theorem s_holds : SIM wp_X7_holds wp_X8_holds := by
  refine SIM.qr (fun I f v hf hz c m => ?_)
  unfold wp_X7_holds wp_X8_holds
  by_cases h0 : 0 < tn f
  · refine ⟨nI (paN f (tw f) 0), fun Q hQ => ?_, fun J Q hJ mj hQ => ?_⟩
    · rw [c_isThere c hf, decide_eq_true h0, i1_0]
      simp only [Bool.true_eq_false, Bool.false_eq_true, false_implies, true_implies, not_true_eq_false, not_false_eq_true, and_true, true_and]
      unfold wp_X2_paidAhead
      refine c_takeAll (by omega) (fun J hJ => ?_)
      exact c_ghostPaid (hJ.bk c hf.n.2 hf.w.2) hf h0 (fun K ko => hQ K (FRA.out (by omega) (hJ.2.2.2.tr ko)))
    · rw [mj.2, decide_eq_true h0, i1_0]
      simp only [Bool.true_eq_false, Bool.false_eq_true, false_implies, true_implies, not_true_eq_false, not_false_eq_true, and_true, true_and]
      refine m_layTried hf mj.1 (by omega) ?_
      exact ⟨_, m_hd_loop (k := fun x1 I => Q x1 I) hf mj hQ (tw f) 0 (by omega) rfl⟩
  · refine ⟨-nI 1000002, fun Q hQ => ?_, fun J Q hJ mj hQ => ?_⟩
    · rw [c_isThere c hf, decide_eq_false h0, i1_0]; simp only [Bool.true_eq_false, Bool.false_eq_true, false_implies, true_implies, not_true_eq_false, not_false_eq_true, and_true, true_and]; exact hQ I (FRA.rf I)
    · rw [mj.2, decide_eq_false h0, i1_0]; simp only [Bool.true_eq_false, Bool.false_eq_true, false_implies, true_implies, not_true_eq_false, not_false_eq_true, and_true, true_and]; exact hQ J (FRA.rf J)
theorem s_infant : SIM wp_X7_infant wp_X8_infant := by
  refine SIM.qr (fun I f v hf hz c m => ?_)
  unfold wp_X7_infant wp_X8_infant
  by_cases h0 : 0 < tn f
  · refine ⟨inD f (tw f) 0, fun Q hQ => ?_, fun J Q hJ mj hQ => ?_⟩
    · rw [c_isThere c hf, decide_eq_true h0, i1_0]
      simp only [Bool.true_eq_false, Bool.false_eq_true, false_implies, true_implies, not_true_eq_false, not_false_eq_true, and_true, true_and]
      exact c_firstInfant c hf h0 (fun K ko => hQ K (FRA.out (by omega) ko))
    · rw [mj.2, decide_eq_true h0, i1_0]
      simp only [Bool.true_eq_false, Bool.false_eq_true, false_implies, true_implies, not_true_eq_false, not_false_eq_true, and_true, true_and]
      refine m_layTried hf mj.1 (by omega) ?_
      refine m_in_loop (r := inD f (tw f) 0) hf mj (fun _ K hK => hQ K hK) (fun e K hK => ?_) (tw f) 0 (by omega) rfl
      have := hQ K hK
      rw [e] at this; exact this
  · refine ⟨-nI 1000002, fun Q hQ => ?_, fun J Q hJ mj hQ => ?_⟩
    · rw [c_isThere c hf, decide_eq_false h0, i1_0]; simp only [Bool.true_eq_false, Bool.false_eq_true, false_implies, true_implies, not_true_eq_false, not_false_eq_true, and_true, true_and]; exact hQ I (FRA.rf I)
    · rw [mj.2, decide_eq_false h0, i1_0]; simp only [Bool.true_eq_false, Bool.false_eq_true, false_implies, true_implies, not_true_eq_false, not_false_eq_true, and_true, true_and]; exact hQ J (FRA.rf J)

theorem gd {b : Bool} {P R : Prop} (h1 : b = false → P) (h2 : b = true → R) : ((i1 b = 0 → P) ∧ (¬ i1 b = 0 → R)) := by
  rw [i1_0]; exact ⟨h1, fun e => h2 (by simpa using e)⟩
theorem gd' {b : Bool} {P R : Prop} (h1 : b = false → P) (h2 : b = true → R) : ((¬ i1 b = 0 → R) ∧ (i1 b = 0 → P)) := by
  rw [i1_0]; exact ⟨fun e => h2 (by simpa using e), h1⟩
theorem stC_at {z : Option Int32} {I : II} {a : Nat} (h : a ≠ 296) : stC z I a = I a := by
  cases z with
  | none => rfl
  | some z => exact su_cell h
theorem FRA.cell {z : Option Int32} {I J : II} {a : Nat} (h : FRA (stC z I) J) (h1 : a ≠ 296) (h2 : ∀ k, ¬ scr a k) : J a = I a := by
  rw [← stC_at (z := z) (I := I) h1]; exact funext fun k => h a k (h2 k)
theorem ROW.st {z : Option Int32} {I J : II} (r : ROW I) (h : FRA (stC z I) J) : ROW J := r.fr (fun c hc => h.cell (by omega) (fun k q => by unfold scr at q; omega))
theorem nIn0 (w : Nat) (h : w < 2147483647) : ¬ nI (w + 1) = 0 := by rw [nIe0 (by omega)]; omega
theorem s_who (x1 x2 x3 x4 x5 x6 : Int32) : SIM (wp_X7_who x1 x2 x3 x4 x5 x6) (wp_X8_who x1 x2 x3 x4 x5 x6) := by
  refine SIM.qs (fun I f v hf hz c m => ?_)
  have n4 := hf.n.2
  by_cases ha : hT f x1 = true ∧ inB 0 1 x2 = true ∧ hT f x3 = true ∧ inB 0 7 x4 = true ∧ inB 1 12 x6 = true
  · obtain ⟨e1, e2, e3, e4, e5⟩ := ha
    obtain ⟨t, ht, rfl⟩ := hT_of hf e1
    obtain ⟨u, hu, rfl⟩ := hT_of hf e3
    obtain ⟨q, -, hq, rfl⟩ := inB_of (by omega) (by omega) e4
    obtain ⟨n, hn1, hn, rfl⟩ := inB_of (by omega) (by omega) e5
    have hq8 : q < 8 := by omega
    cases fd : fdN I q x5 (nI n) with
    | succ w =>
      have w2 : w ≤ 1 := by
        unfold fdN at fd
        split at fd
        · omega
        · split at fd <;> omega
      refine ⟨-nI 1000010 - nI (w + 1), some (nI (w + 1)), fun Q hQ => ?_, fun J Q hJ mj hQ => ?_⟩
      · unfold wp_X7_who
        rw [c_hasTeller c hf, e1, i1_0, k_isChoice, e2, i1_0, c_hasTeller c hf, e3, i1_0, k_isRow, e4, i1_0, k_isWatched, e5, i1_0]
        simp only [Bool.true_eq_false, Bool.false_eq_true, false_implies, true_implies, not_true_eq_false, not_false_eq_true, and_true, true_and]
        refine c_findingOf v.row hq8 ?_
        rw [fd]
        refine ⟨fun e => absurd e (nIn0 w (by omega)), fun _ => ?_⟩
        rw [k_found]; exact hQ I (FRA.rf I)
      · unfold wp_X8_who
        rw [m_isTeller mj.1 hf, e1, i1_0, m_inE _ _ _ _ _ (by omega) (by omega), e2, i1_0, m_isTeller mj.1 hf, e3, i1_0, m_isRow, e4, i1_0, m_inE _ _ _ _ _ (by omega) (by omega), e5, i1_0]
        simp only [Bool.true_eq_false, Bool.false_eq_true, false_implies, true_implies, not_true_eq_false, not_false_eq_true, and_true, true_and]
        have ff : fdN J q x5 (nI n) = w + 1 := by rw [fdN_fr ⟨hJ.cell (by omega) (fun k q => by unfold scr at q; omega), hJ.cell (by omega) (fun k q => by unfold scr at q; omega)⟩, fd]
        refine m_noItems (v.row.st hJ) hq8 (fun e => by omega) (fun w' e => ?_)
        have : w' = w := by omega
        subst this
        refine ⟨fun e => absurd e ?_, fun _ => hQ J (FRA.rf J)⟩
        have : w' = 0 ∨ w' = 1 := by omega
        rcases this with rfl | rfl <;> decide
    | zero =>
      obtain ⟨a, z, rfl, hz1, hz2, e9, eit⟩ := fdN_0 v.row hq8 hn fd
      have key : ∃ r, (∀ J1, FRA I J1 → (∀ b, b ≠ 306 → b ≠ 307 → J1 b = I b) → J1 306 2 = nI n → J1 306 3 = nI u → (∀ l, l < n → J1 307 l = I 300 (40 * q + a + l)) → ∀ Q : Int32 → II → Prop, (∀ J, FRA I J → Q r (su J 296 8 (nI 0))) → ((¬ x2 = 0 → wp_X2_caresOf 0 (nI t) J1 (fun r23 I22 => wp_X7_who_125 Q r23 I22)) ∧ (x2 = 0 → wp_X2_kindsOf 0 (nI t) J1 (fun r25 I24 => wp_X7_who_125 Q r25 I24)))) ∧ (∀ J, FRA (su I 296 8 (nI 0)) J → TNW J f → ∀ Q : Int32 → II → Prop, (∀ K, FRA J K → Q r (su K 315 10 (nI 0))) → ∃ n71, wp_X8_who_76 Q (fun x8 I => wp_X8_well x8 I (fun r70 I69 => Q r70 I69)) n71 (nI t) x2 (nI u) (nI q) (nI a) (nI n) (nI 0) (nI 1) J) := by
        have jt : ∀ J, FRA (su I 296 8 (nI 0)) J → ∀ k, k < n → J 320 (40 * q + a + k) = I 300 (40 * q + a + k) := fun J hJ k hk => by
          have := FRA.cell (z := some (nI 0)) (I := I) (J := J) (a := 320) hJ (by omega) (fun k q => by unfold scr at q; omega)
          rw [this, Nat.add_assoc, eit _ (by omega)]
        by_cases hx : x2 = 0
        · refine ⟨mkD (fun v => upd f (29 + t) (nI v)) u (fun k => I 300 (40 * q + a + k)) n 5 1 (nI 0), fun J1 h1 h2 h3 h4 h5 Q hQ => ⟨fun e => absurd hx e, fun _ => ?_⟩, fun J hJ mj Q hQ => ?_⟩
          · unfold wp_X2_kindsOf
            refine ⟨_, c_ki_loop (I := J1) (c.fr (fun b b1 b2 => h2 b (by omega) (by omega))) hf ht hu hn h3 h4 h5 (fun J jo => ?_) 5 1 (nI 0) J1 (by omega) (by omega) rfl (OUT.rf 2 J1)⟩
            show wp_X7_fine _ J _
            rw [k_fine]
            exact hQ J (h1.tr (FRA.out (by omega) jo))
          · refine ⟨_, m_ki_loop (I := J) (its := fun k => I 300 (40 * q + a + k)) hf ht hu hq8 (by omega) hx (jt J hJ) (fun K hK => ?_) 5 1 (nI 0) J (by omega) (by omega) rfl (FRA.rf J) mj⟩
            show wp_X8_well _ K _; rw [m_well]; exact hQ K hK
        · refine ⟨mkD (fun v => upd f (37 + t) (nI v)) u (fun k => I 300 (40 * q + a + k)) n 9 1 (nI 0), fun J1 h1 h2 h3 h4 h5 Q hQ => ⟨fun _ => ?_, fun e => absurd e hx⟩, fun J hJ mj Q hQ => ?_⟩
          · unfold wp_X2_caresOf
            refine ⟨_, c_ca_loop (I := J1) (c.fr (fun b b1 b2 => h2 b (by omega) (by omega))) hf ht hu hn h3 h4 h5 (fun J jo => ?_) 9 1 (nI 0) J1 (by omega) (by omega) rfl (OUT.rf 2 J1)⟩
            show wp_X7_fine _ J _
            rw [k_fine]
            exact hQ J (h1.tr (FRA.out (by omega) jo))
          · refine ⟨_, m_ca_loop (I := J) (its := fun k => I 300 (40 * q + a + k)) hf ht hu hq8 (by omega) hx (jt J hJ) (fun K hK => ?_) 9 1 (nI 0) J (by omega) (by omega) rfl (FRA.rf J) mj⟩
            show wp_X8_well _ K _; rw [m_well]; exact hQ K hK
      obtain ⟨r, k1, k2⟩ := key
      refine ⟨r, some (nI 0), fun Q hQ => ?_, fun J Q hJ mj hQ => ?_⟩
      · unfold wp_X7_who
        rw [c_hasTeller c hf, e1, i1_0, k_isChoice, e2, i1_0, c_hasTeller c hf, e3, i1_0, k_isRow, e4, i1_0, k_isWatched, e5, i1_0]
        simp only [Bool.true_eq_false, Bool.false_eq_true, false_implies, true_implies, not_true_eq_false, not_false_eq_true, and_true, true_and]
        refine c_findingOf v.row hq8 ?_
        rw [fd]
        refine ⟨fun _ => ?_, fun e => absurd nI_0 e⟩
        exact c_watch hq8 hz2 hz1 hn e9 (fun J1 h1 h2 h3 h4 h5 => k1 J1 h1 h2 h3 h4 h5 Q hQ)
      · unfold wp_X8_who
        rw [m_isTeller mj.1 hf, e1, i1_0, m_inE _ _ _ _ _ (by omega) (by omega), e2, i1_0, m_isTeller mj.1 hf, e3, i1_0, m_isRow, e4, i1_0, m_inE _ _ _ _ _ (by omega) (by omega), e5, i1_0]
        simp only [Bool.true_eq_false, Bool.false_eq_true, false_implies, true_implies, not_true_eq_false, not_false_eq_true, and_true, true_and]
        have ff : fdN J q (nI a) (nI n) = 0 := by rw [fdN_fr ⟨hJ.cell (by omega) (fun k q => by unfold scr at q; omega), hJ.cell (by omega) (fun k q => by unfold scr at q; omega)⟩, fd]
        refine m_noItems (v.row.st hJ) hq8 (fun _ => ?_) (fun w' e => by omega)
        exact ⟨fun _ => k2 J hJ mj Q hQ, fun e => absurd nI_0 e⟩
  · refine ⟨-nI 1000001, none, fun Q hQ => ?_, fun J Q hJ mj hQ => ?_⟩
    · have q0 := hQ I (FRA.rf I)
      unfold wp_X7_who
      rw [c_hasTeller c hf]
      refine gd (fun _ => q0) (fun e1 => ?_)
      rw [k_isChoice]
      refine gd (fun _ => q0) (fun e2 => ?_)
      rw [c_hasTeller c hf]
      refine gd (fun _ => q0) (fun e3 => ?_)
      rw [k_isRow]
      refine gd (fun _ => q0) (fun e4 => ?_)
      rw [k_isWatched]
      exact gd' (fun _ => q0) (fun e5 => absurd ⟨e1, e2, e3, e4, e5⟩ ha)
    · have q0 := hQ J (FRA.rf J)
      unfold wp_X8_who
      rw [m_isTeller mj.1 hf]
      refine gd (fun _ => q0) (fun e1 => ?_)
      rw [m_inE _ _ _ _ _ (by omega) (by omega)]
      refine gd (fun _ => q0) (fun e2 => ?_)
      rw [m_isTeller mj.1 hf]
      refine gd (fun _ => q0) (fun e3 => ?_)
      rw [m_isRow]
      refine gd (fun _ => q0) (fun e4 => ?_)
      rw [m_inE _ _ _ _ _ (by omega) (by omega)]
      exact gd' (fun _ => q0) (fun e5 => absurd ⟨e1, e2, e3, e4, e5⟩ ha)
theorem s_sums (x1 x4 x5 x6 : Int32) : SIM (wp_X7_sums x1 x4 x5 x6) (wp_X8_sums x1 x4 x5 x6) := by
  refine SIM.qs (fun I f v hf hz c m => ?_)
  have n4 := hf.n.2
  have hw := hf.w
  have c7 : I (8 * 0) 7 = nI (tw f) := by rw [c.1.2.2.2.2.2.2.2, hw.1]
  have g7 : 7 < 1372 := by omega
  by_cases ha : hT f x1 = true ∧ inB 0 7 x4 = true ∧ inB 1 12 x6 = true
  · obtain ⟨e1, e4, e5⟩ := ha
    obtain ⟨u, hu, rfl⟩ := hT_of hf e1
    obtain ⟨q, -, hq, rfl⟩ := inB_of (by omega) (by omega) e4
    obtain ⟨n, hn1, hn, rfl⟩ := inB_of (by omega) (by omega) e5
    have hq8 : q < 8 := by omega
    by_cases w0 : tw f = 0
    · refine ⟨-nI 1000002, none, fun Q hQ => ?_, fun J Q hJ mj hQ => ?_⟩
      · unfold wp_X7_sums
        rw [c_hasTeller c hf, e1, i1_0, k_isRow, e4, i1_0, k_isWatched, e5, i1_0, c7, nIe0 (by omega)]
        simp only [Bool.true_eq_false, Bool.false_eq_true, false_implies, true_implies, not_true_eq_false, not_false_eq_true, and_true, true_and, w0]
        exact hQ I (FRA.rf I)
      · have j7 : J 316 7 = nI (tw f) := by rw [mj.1 7 (by omega), hw.1]
        unfold wp_X8_sums
        rw [m_isTeller mj.1 hf, e1, i1_0, m_isRow, e4, i1_0, m_inE _ _ _ _ _ (by omega) (by omega), e5, i1_0]
        simp (disch := omega) only [Bool.true_eq_false, Bool.false_eq_true, false_implies, true_implies, not_true_eq_false, not_false_eq_true, and_true, true_and, nIvp, nIcl, g7, j7, nIe0, w0]
        exact hQ J (FRA.rf J)
    · have hp := hf.q (k := 0) (by omega)
      have hkn := hf.kn (k := 0) (by omega)
      have hkp : kpT f (nI (tq f 0)) = true := by
        unfold kpT
        have h7 := hp.2
        simp (disch := omega) only [nIlt0, nIle, nIcl, nIlt, inB_nI]
        simp [h7, hkn, inB_nI]
        omega
      cases fd : fdN I q x5 (nI n) with
      | succ w =>
        have w2 : w ≤ 1 := by
          unfold fdN at fd
          split at fd
          · omega
          · split at fd <;> omega
        refine ⟨-nI 1000010 - nI (w + 1), some (nI (w + 1)), fun Q hQ => ?_, fun J Q hJ mj hQ => ?_⟩
        · unfold wp_X7_sums
          rw [c_hasTeller c hf, e1, i1_0, k_isRow, e4, i1_0, k_isWatched, e5, i1_0, c7, nIe0 (by omega)]
          simp only [Bool.true_eq_false, Bool.false_eq_true, false_implies, true_implies, not_true_eq_false, not_false_eq_true, and_true, true_and, w0]
          refine c_findingOf v.row hq8 ?_
          rw [fd]
          refine ⟨fun e => absurd e (nIn0 w (by omega)), fun _ => ?_⟩
          rw [k_found]; exact hQ I (FRA.rf I)
        · have j7 : J 316 7 = nI (tw f) := by rw [mj.1 7 (by omega), hw.1]
          unfold wp_X8_sums
          rw [m_isTeller mj.1 hf, e1, i1_0, m_isRow, e4, i1_0, m_inE _ _ _ _ _ (by omega) (by omega), e5, i1_0]
          simp (disch := omega) only [Bool.true_eq_false, Bool.false_eq_true, false_implies, true_implies, not_true_eq_false, not_false_eq_true, and_true, true_and, nIvp, nIcl, g7, j7, nIe0, w0]
          have ff : fdN J q x5 (nI n) = w + 1 := by rw [fdN_fr ⟨hJ.cell (by omega) (fun k q => by unfold scr at q; omega), hJ.cell (by omega) (fun k q => by unfold scr at q; omega)⟩, fd]
          refine m_noItems (v.row.st hJ) hq8 (fun e => by omega) (fun w' e => ?_)
          have : w' = w := by omega
          subst this
          refine ⟨fun e => absurd e ?_, fun _ => hQ J (FRA.rf J)⟩
          have : w' = 0 ∨ w' = 1 := by omega
          rcases this with rfl | rfl <;> decide
      | zero =>
        obtain ⟨a, z, rfl, hz1, hz2, e9, eit⟩ := fdN_0 v.row hq8 hn fd
        refine ⟨mkD (fun v => upd f (15 + tq f 0) (nI v)) u (fun k => I 300 (40 * q + a + k)) n 30 1 (nI 0), some (nI 0), fun Q hQ => ?_, fun J Q hJ mj hQ => ?_⟩
        · unfold wp_X7_sums
          rw [c_hasTeller c hf, e1, i1_0, k_isRow, e4, i1_0, k_isWatched, e5, i1_0, c7, nIe0 (by omega)]
          simp only [Bool.true_eq_false, Bool.false_eq_true, false_implies, true_implies, not_true_eq_false, not_false_eq_true, and_true, true_and, w0]
          refine c_findingOf v.row hq8 ?_
          rw [fd]
          refine ⟨fun _ => ?_, fun e => absurd nI_0 e⟩
          refine c_watch hq8 hz2 hz1 hn e9 (fun J1 h1 h2 h3 h4 h5 => ?_)
          unfold wp_X2_sumsOfFirst
          have cb : BK True J1 0 f := c.fr (fun b b1 b2 => h2 b (by omega) (by omega))
          rw [c_paperAt cb hf (by omega)]
          refine ⟨_, c_sf_loop (I := J1) cb hf hp.2 hkp hu hn h3 h4 h5 (fun J jo => ?_) 30 1 (nI 0) J1 (by omega) (by omega) rfl (OUT.rf 2 J1)⟩
          show wp_X7_fine _ J _
          rw [k_fine]
          exact hQ J (h1.tr (FRA.out (by omega) jo))
        · have j7 : J 316 7 = nI (tw f) := by rw [mj.1 7 (by omega), hw.1]
          unfold wp_X8_sums
          rw [m_isTeller mj.1 hf, e1, i1_0, m_isRow, e4, i1_0, m_inE _ _ _ _ _ (by omega) (by omega), e5, i1_0]
          simp (disch := omega) only [Bool.true_eq_false, Bool.false_eq_true, false_implies, true_implies, not_true_eq_false, not_false_eq_true, and_true, true_and, nIvp, nIcl, g7, j7, nIe0, w0]
          have ff : fdN J q (nI a) (nI n) = 0 := by rw [fdN_fr ⟨hJ.cell (by omega) (fun k q => by unfold scr at q; omega), hJ.cell (by omega) (fun k q => by unfold scr at q; omega)⟩, fd]
          refine m_noItems (v.row.st hJ) hq8 (fun _ => ?_) (fun w' e => by omega)
          refine ⟨fun _ => ⟨_, m_sf_loop (I := J) (its := fun k => I 300 (40 * q + a + k)) hf hp.2 hp.1 hu hq8 (by omega) (fun k hk => ?_) (fun K hK => ?_) 30 1 (nI 0) J (by omega) (by omega) rfl (FRA.rf J) mj⟩, fun e => absurd nI_0 e⟩
          · have := FRA.cell (z := some (nI 0)) (I := I) (J := J) (a := 320) hJ (by omega) (fun k q => by unfold scr at q; omega)
            rw [this, Nat.add_assoc, eit _ (by omega)]
          · show wp_X8_well _ K _; rw [m_well]; exact hQ K hK
  · refine ⟨-nI 1000001, none, fun Q hQ => ?_, fun J Q hJ mj hQ => ?_⟩
    · have q0 := hQ I (FRA.rf I)
      unfold wp_X7_sums
      rw [c_hasTeller c hf]
      refine gd (fun _ => q0) (fun e1 => ?_)
      rw [k_isRow]
      refine gd (fun _ => q0) (fun e4 => ?_)
      rw [k_isWatched]
      exact gd' (fun _ => q0) (fun e5 => absurd ⟨e1, e4, e5⟩ ha)
    · have q0 := hQ J (FRA.rf J)
      unfold wp_X8_sums
      rw [m_isTeller mj.1 hf]
      refine gd (fun _ => q0) (fun e1 => ?_)
      rw [m_isRow]
      refine gd (fun _ => q0) (fun e4 => ?_)
      rw [m_inE _ _ _ _ _ (by omega) (by omega)]
      exact gd' (fun _ => q0) (fun e5 => absurd ⟨e1, e4, e5⟩ ha)

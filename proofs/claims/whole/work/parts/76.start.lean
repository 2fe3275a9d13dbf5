theorem nF_tbl : ∀ q ∈ nF, (Cond.fieldLinkNest q.1 q.2.1 q.2.2.1 q.2.2.2.1 q.2.2.2.2.1 q.2.2.2.2.2 : Cond) ∈ lw_tbl := by
  intro q h
  simp only [nF, List.mem_cons, List.not_mem_nil, or_false] at h
  rcases h with rfl | rfl | rfl | rfl | rfl | rfl | rfl | rfl | rfl | rfl | rfl | rfl | rfl | rfl | rfl | rfl | rfl | rfl | rfl | rfl | rfl | rfl | rfl | rfl | rfl | rfl | rfl | rfl | rfl | rfl | rfl | rfl | rfl | rfl | rfl | rfl | rfl | rfl
  · exact tn_1 (List.mem_of_getElem? (i := 52) (by decide +kernel))
  · exact tn_1 (List.mem_of_getElem? (i := 54) (by decide +kernel))
  · exact tn_1 (List.mem_of_getElem? (i := 56) (by decide +kernel))
  · exact tn_1 (List.mem_of_getElem? (i := 57) (by decide +kernel))
  · exact tn_1 (List.mem_of_getElem? (i := 58) (by decide +kernel))
  · exact tn_1 (List.mem_of_getElem? (i := 60) (by decide +kernel))
  · exact tn_1 (List.mem_of_getElem? (i := 61) (by decide +kernel))
  · exact tn_1 (List.mem_of_getElem? (i := 63) (by decide +kernel))
  · exact tn_1 (List.mem_of_getElem? (i := 65) (by decide +kernel))
  · exact tn_1 (List.mem_of_getElem? (i := 66) (by decide +kernel))
  · exact tn_1 (List.mem_of_getElem? (i := 68) (by decide +kernel))
  · exact tn_1 (List.mem_of_getElem? (i := 70) (by decide +kernel))
  · exact tn_1 (List.mem_of_getElem? (i := 71) (by decide +kernel))
  · exact tn_1 (List.mem_of_getElem? (i := 72) (by decide +kernel))
  · exact tn_1 (List.mem_of_getElem? (i := 76) (by decide +kernel))
  · exact tn_1 (List.mem_of_getElem? (i := 77) (by decide +kernel))
  · exact tn_1 (List.mem_of_getElem? (i := 78) (by decide +kernel))
  · exact tn_1 (List.mem_of_getElem? (i := 80) (by decide +kernel))
  · exact tn_1 (List.mem_of_getElem? (i := 82) (by decide +kernel))
  · exact tn_1 (List.mem_of_getElem? (i := 83) (by decide +kernel))
  · exact tn_1 (List.mem_of_getElem? (i := 84) (by decide +kernel))
  · exact tn_1 (List.mem_of_getElem? (i := 86) (by decide +kernel))
  · exact tn_1 (List.mem_of_getElem? (i := 87) (by decide +kernel))
  · exact tn_1 (List.mem_of_getElem? (i := 88) (by decide +kernel))
  · exact tn_1 (List.mem_of_getElem? (i := 90) (by decide +kernel))
  · exact tn_1 (List.mem_of_getElem? (i := 92) (by decide +kernel))
  · exact tn_1 (List.mem_of_getElem? (i := 94) (by decide +kernel))
  · exact tn_1 (List.mem_of_getElem? (i := 132) (by decide +kernel))
  · exact tn_1 (List.mem_of_getElem? (i := 134) (by decide +kernel))
  · exact tn_1 (List.mem_of_getElem? (i := 136) (by decide +kernel))
  · exact tn_1 (List.mem_of_getElem? (i := 139) (by decide +kernel))
  · exact tn_1 (List.mem_of_getElem? (i := 167) (by decide +kernel))
  · exact tn_1 (List.mem_of_getElem? (i := 211) (by decide +kernel))
  · exact tn_1 (List.mem_of_getElem? (i := 213) (by decide +kernel))
  · exact tn_1 (List.mem_of_getElem? (i := 215) (by decide +kernel))
  · exact tn_4 (List.mem_of_getElem? (i := 145) (by decide +kernel))
  · exact tn_4 (List.mem_of_getElem? (i := 147) (by decide +kernel))
  · exact tn_4 (List.mem_of_getElem? (i := 149) (by decide +kernel))
theorem nM_tbl : ∀ q ∈ nM, (Cond.methodLinkNest q.1 q.2.1 q.2.2.1 q.2.2.2 : Cond) ∈ lw_tbl := by
  intro q h
  simp only [nM, List.mem_cons, List.not_mem_nil, or_false] at h
  rcases h with rfl | rfl | rfl | rfl | rfl | rfl | rfl | rfl | rfl | rfl | rfl
  · exact tn_1 (List.mem_of_getElem? (i := 23) (by decide +kernel))
  · exact tn_1 (List.mem_of_getElem? (i := 41) (by decide +kernel))
  · exact tn_1 (List.mem_of_getElem? (i := 47) (by decide +kernel))
  · exact tn_1 (List.mem_of_getElem? (i := 154) (by decide +kernel))
  · exact tn_1 (List.mem_of_getElem? (i := 163) (by decide +kernel))
  · exact tn_1 (List.mem_of_getElem? (i := 177) (by decide +kernel))
  · exact tn_1 (List.mem_of_getElem? (i := 182) (by decide +kernel))
  · exact tn_1 (List.mem_of_getElem? (i := 203) (by decide +kernel))
  · exact tn_2 (List.mem_of_getElem? (i := 3) (by decide +kernel))
  · exact tn_2 (List.mem_of_getElem? (i := 59) (by decide +kernel))
  · exact tn_4 (List.mem_of_getElem? (i := 85) (by decide +kernel))
theorem ao_tbl : (Cond.arrayOver (.object RX1) : Cond) ∈ lw_tbl := tn_1 (List.mem_of_getElem? (i := 162) (by decide +kernel))
theorem lwT_tbl {w : Cond} (h : w ∈ lwT) : w ∈ lw_tbl := (List.mem_filter.mp h).1
theorem ta_ABOVE {b : Nat} {s : State} {A : Nat → Prop} (hgv : (Jvm.Cond.and given_1 narrow_1).before #[Value.ref b] s = true) (hA : ∀ a : Nat, a < s.heap.size → ¬ A a) : ∃ t : Nat, (Term.static "TellerDays" "ABOVE" "[I").eval #[Value.ref b] s none [] s = some (.ref t) ∧ va_T .int t 6 (fun k => .int (stA k)) A s s.heap := by
  have hs := flat_of_before _ hgv
  refine va_Tof (tm := .static "TellerDays" "ABOVE" "[I") (by decide) (hs (Cond.arrayOf (.static "TellerDays" "ABOVE" "[I") .int) (by decide +kernel)) (va_eqt (hs (Cond.eq (.length (.static "TellerDays" "ABOVE" "[I")) (.int 6)) (by decide +kernel))) (fun j hj => ?_) hA
  rcases (show j = 0 ∨ j = 1 ∨ j = 2 ∨ j = 3 ∨ j = 4 ∨ j = 5 by omega) with rfl | rfl | rfl | rfl | rfl | rfl
  · exact va_eqt (hs (Cond.eq (.elem (.static "TellerDays" "ABOVE" "[I") (.int 0)) (.int (-1000000))) (by decide +kernel))
  · exact va_eqt (hs (Cond.eq (.elem (.static "TellerDays" "ABOVE" "[I") (.int 1)) (.int (0))) (by decide +kernel))
  · exact va_eqt (hs (Cond.eq (.elem (.static "TellerDays" "ABOVE" "[I") (.int 2)) (.int (1))) (by decide +kernel))
  · exact va_eqt (hs (Cond.eq (.elem (.static "TellerDays" "ABOVE" "[I") (.int 3)) (.int (1))) (by decide +kernel))
  · exact va_eqt (hs (Cond.eq (.elem (.static "TellerDays" "ABOVE" "[I") (.int 4)) (.int (0))) (by decide +kernel))
  · exact va_eqt (hs (Cond.eq (.elem (.static "TellerDays" "ABOVE" "[I") (.int 5)) (.int (4))) (by decide +kernel))
theorem ta_SIZE_BODY {b : Nat} {s : State} {A : Nat → Prop} (hgv : (Jvm.Cond.and given_1 narrow_1).before #[Value.ref b] s = true) (hA : ∀ a : Nat, a < s.heap.size → ¬ A a) : ∃ t : Nat, (Term.static "TellerDays" "SIZE_BODY" "[I").eval #[Value.ref b] s none [] s = some (.ref t) ∧ va_T .int t 6 (fun k => .int (stS k)) A s s.heap := by
  have hs := flat_of_before _ hgv
  refine va_Tof (tm := .static "TellerDays" "SIZE_BODY" "[I") (by decide) (hs (Cond.arrayOf (.static "TellerDays" "SIZE_BODY" "[I") .int) (by decide +kernel)) (va_eqt (hs (Cond.eq (.length (.static "TellerDays" "SIZE_BODY" "[I")) (.int 6)) (by decide +kernel))) (fun j hj => ?_) hA
  rcases (show j = 0 ∨ j = 1 ∨ j = 2 ∨ j = 3 ∨ j = 4 ∨ j = 5 by omega) with rfl | rfl | rfl | rfl | rfl | rfl
  · exact va_eqt (hs (Cond.eq (.elem (.static "TellerDays" "SIZE_BODY" "[I") (.int 0)) (.int (10))) (by decide +kernel))
  · exact va_eqt (hs (Cond.eq (.elem (.static "TellerDays" "SIZE_BODY" "[I") (.int 1)) (.int (11))) (by decide +kernel))
  · exact va_eqt (hs (Cond.eq (.elem (.static "TellerDays" "SIZE_BODY" "[I") (.int 2)) (.int (12))) (by decide +kernel))
  · exact va_eqt (hs (Cond.eq (.elem (.static "TellerDays" "SIZE_BODY" "[I") (.int 3)) (.int (0))) (by decide +kernel))
  · exact va_eqt (hs (Cond.eq (.elem (.static "TellerDays" "SIZE_BODY" "[I") (.int 4)) (.int (13))) (by decide +kernel))
  · exact va_eqt (hs (Cond.eq (.elem (.static "TellerDays" "SIZE_BODY" "[I") (.int 5)) (.int (14))) (by decide +kernel))
theorem ta_MARK_BODY {b : Nat} {s : State} {A : Nat → Prop} (hgv : (Jvm.Cond.and given_1 narrow_1).before #[Value.ref b] s = true) (hA : ∀ a : Nat, a < s.heap.size → ¬ A a) : ∃ t : Nat, (Term.static "TellerDays" "MARK_BODY" "[I").eval #[Value.ref b] s none [] s = some (.ref t) ∧ va_T .int t 6 (fun k => .int (stM k)) A s s.heap := by
  have hs := flat_of_before _ hgv
  refine va_Tof (tm := .static "TellerDays" "MARK_BODY" "[I") (by decide) (hs (Cond.arrayOf (.static "TellerDays" "MARK_BODY" "[I") .int) (by decide +kernel)) (va_eqt (hs (Cond.eq (.length (.static "TellerDays" "MARK_BODY" "[I")) (.int 6)) (by decide +kernel))) (fun j hj => ?_) hA
  rcases (show j = 0 ∨ j = 1 ∨ j = 2 ∨ j = 3 ∨ j = 4 ∨ j = 5 by omega) with rfl | rfl | rfl | rfl | rfl | rfl
  · exact va_eqt (hs (Cond.eq (.elem (.static "TellerDays" "MARK_BODY" "[I") (.int 0)) (.int (20))) (by decide +kernel))
  · exact va_eqt (hs (Cond.eq (.elem (.static "TellerDays" "MARK_BODY" "[I") (.int 1)) (.int (21))) (by decide +kernel))
  · exact va_eqt (hs (Cond.eq (.elem (.static "TellerDays" "MARK_BODY" "[I") (.int 2)) (.int (24))) (by decide +kernel))
  · exact va_eqt (hs (Cond.eq (.elem (.static "TellerDays" "MARK_BODY" "[I") (.int 3)) (.int (22))) (by decide +kernel))
  · exact va_eqt (hs (Cond.eq (.elem (.static "TellerDays" "MARK_BODY" "[I") (.int 4)) (.int (23))) (by decide +kernel))
  · exact va_eqt (hs (Cond.eq (.elem (.static "TellerDays" "MARK_BODY" "[I") (.int 5)) (.int (0))) (by decide +kernel))
set_option maxHeartbeats 4000000 in
set_option maxRecDepth 100000 in
/-- from the entry, for every script of at most 3584 ints, the law comes to its end with true -/
theorem whole_start {p : Program} {e : Env} {s : State} {m : MethodId} {below : List Frame} {meth : Method} {c : Code} (l : Launch) {b L : Nat} {xs : Nat → Int32} (hL : L ≤ 3584) (C0 : lw_At p s m meth c b L xs) : W p l e room_1 s m #[Value.ref b] below meth c s.heap [] 0 0 (lw_Z below #[Value.ref b] s) (entryFrame m ([Value.ref b] : List Value).toArray 4) := by
  obtain ⟨hx, hb, hr, hml, hown, hts, hX, hbl, hlocks, hgv⟩ := id C0
  have htT : ∀ w ∈ lwT, w.before #[Value.ref b] s = true := fun w h => hts w (lwT_tbl h)
  obtain ⟨c0, iS0, hK0⟩ := u_known (C := RX0) (T := TX0) (N := 2) (n := 2) htT inX0 (htT _ tw_ib_X0)
  obtain ⟨c1, iS1, hK1⟩ := u_known (C := RX1) (T := TX1) (N := 17) (n := 17) htT inX1 (htT _ tw_ib_X1)
  obtain ⟨c2, iS2, hK2⟩ := u_known (C := RX2) (T := TX2) (N := 4) (n := 4) htT inX2 (htT _ tw_ib_X2)
  obtain ⟨c3, iS3, hK3⟩ := u_known (C := RX3) (T := TX3) (N := 3) (n := 3) htT inX3 (htT _ tw_ib_X3)
  obtain ⟨c4, iS4, hK4⟩ := u_known (C := RX4) (T := TX4) (N := 3) (n := 3) htT inX4 (htT _ tw_ib_X4)
  obtain ⟨c5, iS5, hK5⟩ := u_known (C := RX5) (T := TX5) (N := 11) (n := 11) htT inX5 (htT _ tw_ib_X5)
  obtain ⟨c6, iS6, hK6⟩ := u_known (C := RX6) (T := TX6) (N := 6) (n := 6) htT inX6 (htT _ tw_ib_X6)
  obtain ⟨c7, iS7, hK7⟩ := u_known (C := RX7) (T := TX7) (N := 9) (n := 9) htT inX7 (htT _ tw_ib_X7)
  obtain ⟨c8, iS8, hK8⟩ := u_known (C := RX8) (T := TX8) (N := 18) (n := 18) htT inX8 (htT _ tw_ib_X8)
  obtain ⟨cI, kcI, gI, ii1, ii2, ii3⟩ := Cond.arrayClass_spec (htT _ tw_ac_int)
  obtain ⟨cZ, kcZ, gZ, z1, z2, z3⟩ := Cond.arrayClass_spec (htT _ tw_ac_boolean)
  have hao : va_AO RX1 s := va_AO.of (hts _ ao_tbl)
  obtain ⟨gB, cB, kcB, b1, b2, b3, b4, b5⟩ := Cond.arrayOver_spec hao
  obtain ⟨D, hKc⟩ : ∃ D : va_G, ∀ (k : Nat) (q : vw_C), vwCl[k]? = some q → u_Kn s q.1 q.2.1 q.2.2 (D.1 k) (D.2 k) := by
    refine ⟨(fun k => if k = 0 then c0 else if k = 1 then c1 else if k = 2 then c2 else if k = 3 then c3 else if k = 4 then c4 else if k = 5 then c5 else if k = 6 then c6 else if k = 7 then c7 else c8, fun k => if k = 0 then iS0 else if k = 1 then iS1 else if k = 2 then iS2 else if k = 3 then iS3 else if k = 4 then iS4 else if k = 5 then iS5 else if k = 6 then iS6 else if k = 7 then iS7 else iS8), ?_⟩
    intro k q hq
    match k, hq with
    | 0, hq => cases hq; exact hK0
    | 1, hq => cases hq; exact hK1
    | 2, hq => cases hq; exact hK2
    | 3, hq => cases hq; exact hK3
    | 4, hq => cases hq; exact hK4
    | 5, hq => cases hq; exact hK5
    | 6, hq => cases hq; exact hK6
    | 7, hq => cases hq; exact hK7
    | 8, hq => cases hq; exact hK8
    | k + 9, hq => simp [vwCl] at hq
  have hK : va_K D vwCl [(cI, .int), (cZ, .boolean), (cB, .object RX1)] s := by
    refine ⟨hKc, fun k q hq => ?_⟩
    match k, hq with
    | 0, hq => cases hq; exact ⟨fun n z => ⟨fun k h => (by cases h), kcI, ii2, gI, ii3⟩, ii1⟩
    | 1, hq => cases hq; exact ⟨fun n z => ⟨fun k h => (by cases h), kcZ, z2, gZ, z3⟩, z1⟩
    | 2, hq => cases hq; exact ⟨fun n z => ⟨fun k h => (by cases h), kcB, b3, gB, b4⟩, kcB, gB, b3, b4, b1, b5⟩
    | k + 3, hq => simp at hq
  have hN : NW s := ⟨fun q hq => va_Nw.of rfl (hts _ (nF_tbl q hq)), fun q hq => va_Nw.of rfl (hts _ (nM_tbl q hq))⟩
  generalize hAe : (fun q : Nat => s.heap.size ≤ q) = A
  have hA1 : ∀ q, s.heap.size ≤ q → A q := fun q h => by rw [← hAe]; exact h
  have hA2 : ∀ q, A q → s.heap.size ≤ q := fun q h => by rw [← hAe] at h; exact h
  have hA : ∀ a : Nat, a < s.heap.size → ¬ A a := fun a h q => by have := hA2 a q; omega
  obtain ⟨t1, u1, d1⟩ := ta_ABOVE (A := A) hgv hA
  obtain ⟨t2, u2, d2⟩ := ta_SIZE_BODY (A := A) hgv hA
  obtain ⟨t3, u3, d3⟩ := ta_MARK_BODY (A := A) hgv hA
  have hST : ∀ a : Nat → Nat, ST (D, a, (cI, cZ, cB), A, (t1, t2, t3)) s s.heap := fun a => ⟨⟨va_Zref (hts _ tw_ls_ABOVE) (htT _ tw_in_X7) u1 hA, d1⟩, ⟨va_Zref (hts _ tw_ls_SIZE_BODY) (htT _ tw_in_X7) u2 hA, d2⟩, ⟨va_Zref (hts _ tw_ls_MARK_BODY) (htT _ tw_in_X7) u3 hA, d3⟩⟩
  have X : CK D (cI, cZ, cB) p s m #[Value.ref b] c cL_law 4 RL := ⟨⟨hx, hb, hml, hown, htT⟩, hK, hao, hN⟩
  have w : WW D A s s.heap [] [] := ⟨fun k q h => by simp at h, ⟨fun i j p q h => by simp at h, fun k q h => by simp at h⟩, va_S.rf, hA1⟩
  have hl := lv_entry ([.ref b]) (n := 4) (Nat.le_of_ble_eq_true rfl)
  rw [lg_entry_eq]
  generalize (lg_sl ([.ref b]) ++ List.replicate (4 - (lg_sl ([.ref b])).length) Slot.unset).toArray = ls at hl ⊢
  have hl : lv_has ls 4 [(0, .ref b)] := hl
  refine nw_o X w (ci := 7) (fs := [.null, .null, .null, .null, .null, .null, .null, .null, .int 0]) inX7 tyX7 tyX7_ok tw_cl_L_7 tw_ib_X7 tw_in_X7 rfl (by intro j hj; rcases (show j = 0 ∨ j = 1 ∨ j = 2 ∨ j = 3 ∨ j = 4 ∨ j = 5 ∨ j = 6 ∨ j = 7 ∨ j = 8 by omega) with rfl | rfl | rfl | rfl | rfl | rfl | rfl | rfl | rfl <;> rfl) (Nat.le_of_ble_eq_true rfl) (Nat.le_of_ble_eq_true rfl) dL_law_0 (fun h0 H w => ?_)
  refine lv_dup hx hb dL_law_3 rfl ?_
  refine kI X w (C_X7_init _ _) tw_ml_L_9 if_X7 ⟨rfl, rfl, Nat.le_of_ble_eq_true rfl, Nat.le_of_ble_eq_true rfl⟩ hl.1 (Nat.le_of_ble_eq_true rfl) ⟨Nat.le_of_ble_eq_true rfl, Nat.le_of_ble_eq_true rfl⟩ dL_law_4 (fun w7 H locs pw7 w => ?_)
  refine lv_astore_n (lv' := [(1, .ref h0), (0, .ref b)]) hx hb dL_law_7 rfl hl (by decide) rfl (fun ls hl => ?_)
  refine nw_o X w (ci := 8) (fs := [.null, .int 0, .int 0, .null, .null, .null, .null, .null, .int 0, .int 0, .int 0, .null, .int 0, .int 0, .int 0, .int 0, .null, .null]) inX8 tyX8 tyX8_ok tw_cl_L_10 tw_ib_X8 tw_in_X8 rfl (by intro j hj; rcases (show j = 0 ∨ j = 1 ∨ j = 2 ∨ j = 3 ∨ j = 4 ∨ j = 5 ∨ j = 6 ∨ j = 7 ∨ j = 8 ∨ j = 9 ∨ j = 10 ∨ j = 11 ∨ j = 12 ∨ j = 13 ∨ j = 14 ∨ j = 15 ∨ j = 16 ∨ j = 17 by omega) with rfl | rfl | rfl | rfl | rfl | rfl | rfl | rfl | rfl | rfl | rfl | rfl | rfl | rfl | rfl | rfl | rfl | rfl <;> rfl) (Nat.le_of_ble_eq_true rfl) (Nat.le_of_ble_eq_true rfl) dL_law_8 (fun m0 H w => ?_)
  refine lv_dup hx hb dL_law_11 rfl ?_
  refine kI X w (C_X8_init _ _) tw_ml_L_12 if_X8 ⟨rfl, rfl, Nat.le_of_ble_eq_true rfl, Nat.le_of_ble_eq_true rfl⟩ hl.1 (Nat.le_of_ble_eq_true rfl) ⟨Nat.le_of_ble_eq_true rfl, Nat.le_of_ble_eq_true rfl⟩ dL_law_12 (fun w8 H locs pw8 w => ?_)
  refine lv_astore_n (lv' := [(2, .ref m0), (1, .ref h0), (0, .ref b)]) hx hb dL_law_15 rfl hl (by decide) rfl (fun ls hl => ?_)
  refine lv_iconst (v := (nI 0)) hx hb dL_law_16 (by decide) ?_
  refine lv_istore_n (lv' := [(3, .int (nI 0)), (2, .ref m0), (1, .ref h0), (0, .ref b)]) hx hb dL_law_17 rfl hl (by decide) rfl (fun ls hl => ?_)
  obtain ⟨a, a1, a2, hp⟩ := asm (w7 := w7) (w8 := w8) w pw7 pw8
  have hl : lv_has ls 4 [(3, .int (nI 0)), (2, .ref (a 315)), (1, .ref (a 296)), (0, .ref b)] := by rw [a1, a2]; exact hl
  exact law_loop (E := (D, a, (cI, cZ, cB), A, (t1, t2, t3))) ⟨⟨hx, hb, hml, hown, htT⟩, hr, hlocks, hK, hST a, hN⟩ ⟨hX, hbl, hA b hbl, hL⟩ hA2 ⟨Nat.le_of_ble_eq_true rfl, Nat.le_of_ble_eq_true rfl⟩ L 0 I0 H locs ls (by omega) (by omega) I0_INV (hp _) hl

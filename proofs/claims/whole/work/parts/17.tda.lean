abbrev rmX7_fine : Room := { frames := 0, cells := 0, slots := 0, locals := 0 }
theorem vf_X7_fine : VF yX7_fine RX7 cX7_fine 2 (some .int) 1 := ⟨tw_in_X7, tw_im_X7_fine, tw_se_X7_fine, tw_c_X7_fine, by decide, by decide, by decide +kernel⟩
def wp_X7_fine (x1 : Int32) (I : II) (Q : Int32 → II → Prop) : Prop := (∀ I1 : II, I1 = su I 296 8 (nI 0) → (Q x1 I1))
set_option maxHeartbeats 4000000 in
set_option maxRecDepth 100000 in
theorem w_X7_fine_0 {E : EE} {p : Program} {l : Launch} {e : Env} {s : State} {m : MethodId} {args : Array Value} {below : List Frame} {meth : Method} {c : Code} {Q : Int32 → II → Prop} (X : CX E p s m args meth c cX7_fine 2 (some .int) RX7) : ∀ (x1 : Int32) (I : II) (H : Heap) (locs : List Loc) (ls : Array Slot), wp_X7_fine x1 I Q → PP E s H locs I → lv_has ls 2 [(0, .ref (E.2.1 296)), (1, .int x1)] → W p l e rmX7_fine s m args below meth c H locs 0 0 (MQ below (va_Qi Q (BU E) E.2.2.2.1) args s 0 0 E.2.2.2.1) (F0 m 0 ls []) := by
  obtain ⟨⟨hx, hb, hml, hown, hts⟩, hr, hlk, hK, hST, hN⟩ := id X
  intro x1 I H locs ls h hp hl
  unfold wp_X7_fine at h
  refine lv_aload_n hx hb dX7_fine_0 rfl (lv_at hl 0 rfl) ?_
  refine lv_iconst (v := (nI 0)) hx hb dX7_fine_1 (by decide) ?_
  refine g_X7_349 X hp dX7_fine_2 (fun H locs hp => ?_)
  obtain ⟨I1, e2⟩ : ∃ y, y = su I 296 8 (nI 0) := ⟨_, rfl⟩
  have hp : PP E s H locs I1 := by rw [e2]; exact hp
  have h := h I1 e2
  refine lv_iload_n hx hb dX7_fine_5 rfl (lv_at hl 1 rfl) ?_
  exact rt_i X hp h dX7_fine_6
set_option maxRecDepth 100000 in
theorem C_X7_fine {E : EE} {l : Launch} {x1 : Int32} {I : II} {Q : Int32 → II → Prop} (h : wp_X7_fine x1 I Q) : Met l yX7_fine (Cond.code yX7_fine cX7_fine 2 (some .int) :: lwT) rmX7_fine (va_Pc [.ref (E.2.1 296), .int x1] (PU E I)) (va_Qi Q (BU E) E.2.2.2.1) 0 0 E.2.2.2.1 :=
  ofWalk [.ref (E.2.1 296), .int x1] (by decide) tw_c_X7_fine (Nat.le_of_ble_eq_true rfl) (fun p e s m below meth c ls X hp hl => w_X7_fine_0 X _ _ _ _ _ h hp hl)
abbrev rmX7_found : Room := { frames := 0, cells := 0, slots := 0, locals := 0 }
theorem vf_X7_found : VF yX7_found RX7 cX7_found 2 (some .int) 1 := ⟨tw_in_X7, tw_im_X7_found, tw_se_X7_found, tw_c_X7_found, by decide, by decide, by decide +kernel⟩
def wp_X7_found (x1 : Int32) (I : II) (Q : Int32 → II → Prop) : Prop := (∀ I1 : II, I1 = su I 296 8 x1 → (Q ((-nI 1000010) - x1) I1))
set_option maxHeartbeats 4000000 in
set_option maxRecDepth 100000 in
theorem w_X7_found_0 {E : EE} {p : Program} {l : Launch} {e : Env} {s : State} {m : MethodId} {args : Array Value} {below : List Frame} {meth : Method} {c : Code} {Q : Int32 → II → Prop} (X : CX E p s m args meth c cX7_found 2 (some .int) RX7) : ∀ (x1 : Int32) (I : II) (H : Heap) (locs : List Loc) (ls : Array Slot), wp_X7_found x1 I Q → PP E s H locs I → lv_has ls 2 [(0, .ref (E.2.1 296)), (1, .int x1)] → W p l e rmX7_found s m args below meth c H locs 0 0 (MQ below (va_Qi Q (BU E) E.2.2.2.1) args s 0 0 E.2.2.2.1) (F0 m 0 ls []) := by
  obtain ⟨⟨hx, hb, hml, hown, hts⟩, hr, hlk, hK, hST, hN⟩ := id X
  intro x1 I H locs ls h hp hl
  unfold wp_X7_found at h
  refine lv_aload_n hx hb dX7_found_0 rfl (lv_at hl 0 rfl) ?_
  refine lv_iload_n hx hb dX7_found_1 rfl (lv_at hl 1 rfl) ?_
  refine g_X7_349 X hp dX7_found_2 (fun H locs hp => ?_)
  obtain ⟨I1, e2⟩ : ∃ y, y = su I 296 8 x1 := ⟨_, rfl⟩
  have hp : PP E s H locs I1 := by rw [e2]; exact hp
  have h := h I1 e2
  refine lv_ldcw (v := (-nI 1000010)) hx hb hown (hts _ tw_k_X7_352) dX7_found_5 ?_
  refine lv_iload_n hx hb dX7_found_8 rfl (lv_at hl 1 rfl) ?_
  refine lv_isub hx hb dX7_found_9 ?_
  exact rt_i X hp h dX7_found_10
set_option maxRecDepth 100000 in
theorem C_X7_found {E : EE} {l : Launch} {x1 : Int32} {I : II} {Q : Int32 → II → Prop} (h : wp_X7_found x1 I Q) : Met l yX7_found (Cond.code yX7_found cX7_found 2 (some .int) :: lwT) rmX7_found (va_Pc [.ref (E.2.1 296), .int x1] (PU E I)) (va_Qi Q (BU E) E.2.2.2.1) 0 0 E.2.2.2.1 :=
  ofWalk [.ref (E.2.1 296), .int x1] (by decide) tw_c_X7_found (Nat.le_of_ble_eq_true rfl) (fun p e s m below meth c ls X hp hl => w_X7_found_0 X _ _ _ _ _ h hp hl)
abbrev rmX7_row : Room := { frames := 2, cells := 0, slots := 0, locals := 44 }
theorem vf_X7_row : VF yX7_row RX7 cX7_row 4 (some .int) 3 := ⟨tw_in_X7, tw_im_X7_row, tw_se_X7_row, tw_c_X7_row, by decide, by decide, by decide +kernel⟩
def wp_X7_row (x1 : Int32) (x2 : Int32) (x3 : Int32) (I : II) (Q : Int32 → II → Prop) : Prop := (wp_X7_isRow x1 I (fun r2 I1 => ((r2 = 0 → (Q (-nI 1000001) I1)) ∧ (¬ r2 = 0 → ((x2 < 0 → (Q (-nI 1000001) I1)) ∧ (¬ x2 < 0 → (((nI 3) ≤ x2 → (Q (-nI 1000001) I1)) ∧ (¬ (nI 3) ≤ x2 → ((x3 ≤ (nI 40) → ((0 ≤ x3 → (wp_X4_make x1 x2 x3 I1 (fun I8 => (wp_X7_fine x3 I8 (fun r11 I10 => (Q r11 I10)))))) ∧ (¬ 0 ≤ x3 → (wp_X7_found (nI 4) I1 (fun r13 I12 => (Q r13 I12)))))) ∧ (¬ x3 ≤ (nI 40) → (Q (-nI 1000001) I1)))))))))))
set_option maxHeartbeats 4000000 in
set_option maxRecDepth 100000 in
theorem w_X7_row_0 {E : EE} {p : Program} {l : Launch} {e : Env} {s : State} {m : MethodId} {args : Array Value} {below : List Frame} {meth : Method} {c : Code} {Q : Int32 → II → Prop} (X : CX E p s m args meth c cX7_row 4 (some .int) RX7) : ∀ (x1 : Int32) (x2 : Int32) (x3 : Int32) (I : II) (H : Heap) (locs : List Loc) (ls : Array Slot), wp_X7_row x1 x2 x3 I Q → PP E s H locs I → lv_has ls 4 [(0, .ref (E.2.1 296)), (1, .int x1), (2, .int x2), (3, .int x3)] → W p l e rmX7_row s m args below meth c H locs 0 0 (MQ below (va_Qi Q (BU E) E.2.2.2.1) args s 0 0 E.2.2.2.1) (F0 m 0 ls []) := by
  obtain ⟨⟨hx, hb, hml, hown, hts⟩, hr, hlk, hK, hST, hN⟩ := id X
  intro x1 x2 x3 I H locs ls h hp hl
  unfold wp_X7_row at h
  refine lv_iload_n hx hb dX7_row_0 rfl (lv_at hl 1 rfl) ?_
  refine ki (kS (As := [.int x1]) (rest := []) X hp (C_X7_isRow  h) tw_ml_X7_62 sf_X7_isRow ⟨rfl, rfl, Nat.le_of_ble_eq_true rfl, Nat.le_of_ble_eq_true rfl⟩ rfl hl.1 rfl (Nat.le_of_ble_eq_true rfl) dX7_row_1) hp (fun r2 I1 H locs h hp => ?_)
  refine lv_if_eq (tgt := 22) hx hb dX7_row_4 (by decide) (fun c3 => ?_) (fun c3 => ?_)
  · have h := h.1 c3
    refine lv_ldc (v := (-nI 1000001)) hx hb hown (hts _ tw_k_X7_66) dX7_row_22 ?_
    exact rt_i X hp h dX7_row_24
  · have h := h.2 c3
    refine lv_iload_n hx hb dX7_row_7 rfl (lv_at hl 2 rfl) ?_
    refine lv_if_lt (tgt := 22) hx hb dX7_row_8 (by decide) (fun c4 => ?_) (fun c4 => ?_)
    · have h := h.1 c4
      refine lv_ldc (v := (-nI 1000001)) hx hb hown (hts _ tw_k_X7_66) dX7_row_22 ?_
      exact rt_i X hp h dX7_row_24
    · have h := h.2 c4
      refine lv_iload_n hx hb dX7_row_11 rfl (lv_at hl 2 rfl) ?_
      refine lv_iconst (v := (nI 3)) hx hb dX7_row_12 (by decide) ?_
      refine lv_icmp_ge (tgt := 22) hx hb dX7_row_13 (by decide) (fun c5 => ?_) (fun c5 => ?_)
      · have h := h.1 c5
        refine lv_ldc (v := (-nI 1000001)) hx hb hown (hts _ tw_k_X7_66) dX7_row_22 ?_
        exact rt_i X hp h dX7_row_24
      · have h := h.2 c5
        refine lv_iload_n hx hb dX7_row_16 rfl (lv_at hl 3 rfl) ?_
        refine lv_bipush (v := (nI 40)) hx hb dX7_row_17 (by decide) ?_
        refine lv_icmp_le (tgt := 25) hx hb dX7_row_19 (by decide) (fun c6 => ?_) (fun c6 => ?_)
        · have h := h.1 c6
          refine lv_iload_n hx hb dX7_row_25 rfl (lv_at hl 3 rfl) ?_
          refine lv_if_ge (tgt := 35) hx hb dX7_row_26 (by decide) (fun c7 => ?_) (fun c7 => ?_)
          · have h := h.1 c7
            refine lv_aload_n hx hb dX7_row_35 rfl (lv_at hl 0 rfl) ?_
            refine f_X7_10 X hp dX7_row_36 ?_
            refine lv_iload_n hx hb dX7_row_39 rfl (lv_at hl 1 rfl) ?_
            refine lv_iload_n hx hb dX7_row_40 rfl (lv_at hl 2 rfl) ?_
            refine lv_iload_n hx hb dX7_row_41 rfl (lv_at hl 3 rfl) ?_
            refine kv (kV (As := [.int x1, .int x2, .int x3]) (rest := []) X hp (C_X4_make  h) tw_ml_X7_71 vf_X4_make ⟨rfl, rfl, Nat.le_of_ble_eq_true rfl, Nat.le_of_ble_eq_true rfl⟩ (pr_rcv X hp (k := 297) (by decide) (ob_297 _) (q := (RX4, TX4, 3)) rfl) rfl hl.1 rfl (Nat.le_of_ble_eq_true rfl) dX7_row_42) hp (fun I8 H locs h hp => ?_)
            refine lv_aload_n hx hb dX7_row_45 rfl (lv_at hl 0 rfl) ?_
            refine lv_iload_n hx hb dX7_row_46 rfl (lv_at hl 3 rfl) ?_
            refine ki (kV (As := [.int x3]) (rest := []) X hp (C_X7_fine  h) tw_ml_X7_75 vf_X7_fine ⟨rfl, rfl, Nat.le_of_ble_eq_true rfl, Nat.le_of_ble_eq_true rfl⟩ (pr_rcv X hp (k := 296) (by decide) (ob_296 _) (q := (RX7, TX7, 9)) rfl) rfl hl.1 rfl (Nat.le_of_ble_eq_true rfl) dX7_row_47) hp (fun r11 I10 H locs h hp => ?_)
            exact rt_i X hp h dX7_row_50
          · have h := h.2 c7
            refine lv_aload_n hx hb dX7_row_29 rfl (lv_at hl 0 rfl) ?_
            refine lv_iconst (v := (nI 4)) hx hb dX7_row_30 (by decide) ?_
            refine ki (kV (As := [.int (nI 4)]) (rest := []) X hp (C_X7_found  h) tw_ml_X7_67 vf_X7_found ⟨rfl, rfl, Nat.le_of_ble_eq_true rfl, Nat.le_of_ble_eq_true rfl⟩ (pr_rcv X hp (k := 296) (by decide) (ob_296 _) (q := (RX7, TX7, 9)) rfl) rfl hl.1 rfl (Nat.le_of_ble_eq_true rfl) dX7_row_31) hp (fun r13 I12 H locs h hp => ?_)
            exact rt_i X hp h dX7_row_34
        · have h := h.2 c6
          refine lv_ldc (v := (-nI 1000001)) hx hb hown (hts _ tw_k_X7_66) dX7_row_22 ?_
          exact rt_i X hp h dX7_row_24
set_option maxRecDepth 100000 in
theorem C_X7_row {E : EE} {l : Launch} {x1 : Int32} {x2 : Int32} {x3 : Int32} {I : II} {Q : Int32 → II → Prop} (h : wp_X7_row x1 x2 x3 I Q) : Met l yX7_row (Cond.code yX7_row cX7_row 4 (some .int) :: lwT) rmX7_row (va_Pc [.ref (E.2.1 296), .int x1, .int x2, .int x3] (PU E I)) (va_Qi Q (BU E) E.2.2.2.1) 0 0 E.2.2.2.1 :=
  ofWalk [.ref (E.2.1 296), .int x1, .int x2, .int x3] (by decide) tw_c_X7_row (Nat.le_of_ble_eq_true rfl) (fun p e s m below meth c ls X hp hl => w_X7_row_0 X _ _ _ _ _ _ _ h hp hl)
abbrev rmX7_set : Room := { frames := 3, cells := 0, slots := 0, locals := 67 }
theorem vf_X7_set : VF yX7_set RX7 cX7_set 5 (some .int) 3 := ⟨tw_in_X7, tw_im_X7_set, tw_se_X7_set, tw_c_X7_set, by decide, by decide, by decide +kernel⟩
def wp_X7_set (x1 : Int32) (x2 : Int32) (x3 : Int32) (I : II) (Q : Int32 → II → Prop) : Prop := (wp_X7_isRow x1 I (fun r2 I1 => ((¬ r2 = 0 → (wp_X4_findingOf x1 x2 (nI 1) I1 (fun r5 I4 => ((r5 = 0 → (wp_X4_put x1 x2 x3 I4 (fun r8 I7 => (wp_X7_fine r8 I7 (fun r10 I9 => (Q r10 I9)))))) ∧ (¬ r5 = 0 → (wp_X7_found r5 I4 (fun r12 I11 => (Q r12 I11)))))))) ∧ (r2 = 0 → (Q (-nI 1000001) I1)))))
set_option maxHeartbeats 4000000 in
set_option maxRecDepth 100000 in
theorem w_X7_set_0 {E : EE} {p : Program} {l : Launch} {e : Env} {s : State} {m : MethodId} {args : Array Value} {below : List Frame} {meth : Method} {c : Code} {Q : Int32 → II → Prop} (X : CX E p s m args meth c cX7_set 5 (some .int) RX7) : ∀ (x1 : Int32) (x2 : Int32) (x3 : Int32) (I : II) (H : Heap) (locs : List Loc) (ls : Array Slot), wp_X7_set x1 x2 x3 I Q → PP E s H locs I → lv_has ls 5 [(0, .ref (E.2.1 296)), (1, .int x1), (2, .int x2), (3, .int x3)] → W p l e rmX7_set s m args below meth c H locs 0 0 (MQ below (va_Qi Q (BU E) E.2.2.2.1) args s 0 0 E.2.2.2.1) (F0 m 0 ls []) := by
  obtain ⟨⟨hx, hb, hml, hown, hts⟩, hr, hlk, hK, hST, hN⟩ := id X
  intro x1 x2 x3 I H locs ls h hp hl
  unfold wp_X7_set at h
  refine lv_iload_n hx hb dX7_set_0 rfl (lv_at hl 1 rfl) ?_
  refine ki (kS (As := [.int x1]) (rest := []) X hp (C_X7_isRow  h) tw_ml_X7_62 sf_X7_isRow ⟨rfl, rfl, Nat.le_of_ble_eq_true rfl, Nat.le_of_ble_eq_true rfl⟩ rfl hl.1 rfl (Nat.le_of_ble_eq_true rfl) dX7_set_1) hp (fun r2 I1 H locs h hp => ?_)
  refine lv_if_ne (tgt := 10) hx hb dX7_set_4 (by decide) (fun c3 => ?_) (fun c3 => ?_)
  · have h := h.1 c3
    refine lv_aload_n hx hb dX7_set_10 rfl (lv_at hl 0 rfl) ?_
    refine f_X7_10 X hp dX7_set_11 ?_
    refine lv_iload_n hx hb dX7_set_14 rfl (lv_at hl 1 rfl) ?_
    refine lv_iload_n hx hb dX7_set_15 rfl (lv_at hl 2 rfl) ?_
    refine lv_iconst (v := (nI 1)) hx hb dX7_set_16 (by decide) ?_
    refine ki (kV (As := [.int x1, .int x2, .int (nI 1)]) (rest := []) X hp (C_X4_findingOf  h) tw_ml_X7_78 vf_X4_findingOf ⟨rfl, rfl, Nat.le_of_ble_eq_true rfl, Nat.le_of_ble_eq_true rfl⟩ (pr_rcv X hp (k := 297) (by decide) (ob_297 _) (q := (RX4, TX4, 3)) rfl) rfl hl.1 rfl (Nat.le_of_ble_eq_true rfl) dX7_set_17) hp (fun r5 I4 H locs h hp => ?_)
    refine lv_istore (lv' := [(4, .int r5), (0, .ref (E.2.1 296)), (1, .int x1), (2, .int x2), (3, .int x3)]) hx hb dX7_set_20 hl (by decide) rfl (fun ls hl => ?_)
    refine lv_iload hx hb dX7_set_22 (lv_at hl 0 rfl) ?_
    refine lv_if_eq (tgt := 36) hx hb dX7_set_24 (by decide) (fun c6 => ?_) (fun c6 => ?_)
    · have h := h.1 c6
      refine lv_aload_n hx hb dX7_set_36 rfl (lv_at hl 1 rfl) ?_
      refine lv_aload_n hx hb dX7_set_37 rfl (lv_at hl 1 rfl) ?_
      refine f_X7_10 X hp dX7_set_38 ?_
      refine lv_iload_n hx hb dX7_set_41 rfl (lv_at hl 2 rfl) ?_
      refine lv_iload_n hx hb dX7_set_42 rfl (lv_at hl 3 rfl) ?_
      refine lv_iload_n hx hb dX7_set_43 rfl (lv_at hl 4 rfl) ?_
      refine ki (kV (As := [.int x1, .int x2, .int x3]) (rest := [.ref (E.2.1 296)]) X hp (C_X4_put  h) tw_ml_X7_82 vf_X4_put ⟨rfl, rfl, Nat.le_of_ble_eq_true rfl, Nat.le_of_ble_eq_true rfl⟩ (pr_rcv X hp (k := 297) (by decide) (ob_297 _) (q := (RX4, TX4, 3)) rfl) rfl hl.1 rfl (Nat.le_of_ble_eq_true rfl) dX7_set_44) hp (fun r8 I7 H locs h hp => ?_)
      refine ki (kV (As := [.int r8]) (rest := []) X hp (C_X7_fine  h) tw_ml_X7_75 vf_X7_fine ⟨rfl, rfl, Nat.le_of_ble_eq_true rfl, Nat.le_of_ble_eq_true rfl⟩ (pr_rcv X hp (k := 296) (by decide) (ob_296 _) (q := (RX7, TX7, 9)) rfl) rfl hl.1 rfl (Nat.le_of_ble_eq_true rfl) dX7_set_47) hp (fun r10 I9 H locs h hp => ?_)
      exact rt_i X hp h dX7_set_50
    · have h := h.2 c6
      refine lv_aload_n hx hb dX7_set_27 rfl (lv_at hl 1 rfl) ?_
      refine lv_iload hx hb dX7_set_28 (lv_at hl 0 rfl) ?_
      refine ki (kV (As := [.int r5]) (rest := []) X hp (C_X7_found  h) tw_ml_X7_67 vf_X7_found ⟨rfl, rfl, Nat.le_of_ble_eq_true rfl, Nat.le_of_ble_eq_true rfl⟩ (pr_rcv X hp (k := 296) (by decide) (ob_296 _) (q := (RX7, TX7, 9)) rfl) rfl hl.1 rfl (Nat.le_of_ble_eq_true rfl) dX7_set_30) hp (fun r12 I11 H locs h hp => ?_)
      refine lv_goto (tgt := 50) hx hb dX7_set_33 (by decide) ?_
      exact rt_i X hp h dX7_set_50
  · have h := h.2 c3
    refine lv_ldc (v := (-nI 1000001)) hx hb hown (hts _ tw_k_X7_66) dX7_set_7 ?_
    exact rt_i X hp h dX7_set_9
set_option maxRecDepth 100000 in
theorem C_X7_set {E : EE} {l : Launch} {x1 : Int32} {x2 : Int32} {x3 : Int32} {I : II} {Q : Int32 → II → Prop} (h : wp_X7_set x1 x2 x3 I Q) : Met l yX7_set (Cond.code yX7_set cX7_set 5 (some .int) :: lwT) rmX7_set (va_Pc [.ref (E.2.1 296), .int x1, .int x2, .int x3] (PU E I)) (va_Qi Q (BU E) E.2.2.2.1) 0 0 E.2.2.2.1 :=
  ofWalk [.ref (E.2.1 296), .int x1, .int x2, .int x3] (by decide) tw_c_X7_set (Nat.le_of_ble_eq_true rfl) (fun p e s m below meth c ls X hp hl => w_X7_set_0 X _ _ _ _ _ _ _ h hp hl)
abbrev rmX7_copy : Room := { frames := 3, cells := 0, slots := 0, locals := 68 }
theorem vf_X7_copy : VF yX7_copy RX7 cX7_copy 6 (some .int) 5 := ⟨tw_in_X7, tw_im_X7_copy, tw_se_X7_copy, tw_c_X7_copy, by decide, by decide, by decide +kernel⟩
def wp_X7_copy_39 (Q : Int32 → II → Prop) (I : II) : Prop := (wp_X7_found (nI 1) I (fun r2 I1 => (Q r2 I1)))
set_option maxHeartbeats 4000000 in
set_option maxRecDepth 100000 in
theorem w_X7_copy_39 {E : EE} {p : Program} {l : Launch} {e : Env} {s : State} {m : MethodId} {args : Array Value} {below : List Frame} {meth : Method} {c : Code} {Q : Int32 → II → Prop} (X : CX E p s m args meth c cX7_copy 6 (some .int) RX7) : ∀ (I : II) (H : Heap) (locs : List Loc) (ls : Array Slot), wp_X7_copy_39 Q I → PP E s H locs I → lv_has ls 6 [(0, .ref (E.2.1 296))] → W p l e rmX7_copy s m args below meth c H locs 0 0 (MQ below (va_Qi Q (BU E) E.2.2.2.1) args s 0 0 E.2.2.2.1) (F0 m 39 ls []) := by
  obtain ⟨⟨hx, hb, hml, hown, hts⟩, hr, hlk, hK, hST, hN⟩ := id X
  intro I H locs ls h hp hl
  unfold wp_X7_copy_39 at h
  refine lv_aload_n hx hb dX7_copy_39 rfl (lv_at hl 0 rfl) ?_
  refine lv_iconst (v := (nI 1)) hx hb dX7_copy_40 (by decide) ?_
  refine ki (kV (As := [.int (nI 1)]) (rest := []) X hp (C_X7_found  h) tw_ml_X7_67 vf_X7_found ⟨rfl, rfl, Nat.le_of_ble_eq_true rfl, Nat.le_of_ble_eq_true rfl⟩ (pr_rcv X hp (k := 296) (by decide) (ob_296 _) (q := (RX7, TX7, 9)) rfl) rfl hl.1 rfl (Nat.le_of_ble_eq_true rfl) dX7_copy_41) hp (fun r2 I1 H locs h hp => ?_)
  exact rt_i X hp h dX7_copy_44
def wp_X7_copy_99 (Q : Int32 → II → Prop) (I : II) : Prop := (wp_X7_found (nI 2) I (fun r2 I1 => (Q r2 I1)))
set_option maxHeartbeats 4000000 in
set_option maxRecDepth 100000 in
theorem w_X7_copy_99 {E : EE} {p : Program} {l : Launch} {e : Env} {s : State} {m : MethodId} {args : Array Value} {below : List Frame} {meth : Method} {c : Code} {Q : Int32 → II → Prop} (X : CX E p s m args meth c cX7_copy 6 (some .int) RX7) : ∀ (I : II) (H : Heap) (locs : List Loc) (ls : Array Slot), wp_X7_copy_99 Q I → PP E s H locs I → lv_has ls 6 [(0, .ref (E.2.1 296))] → W p l e rmX7_copy s m args below meth c H locs 0 0 (MQ below (va_Qi Q (BU E) E.2.2.2.1) args s 0 0 E.2.2.2.1) (F0 m 99 ls []) := by
  obtain ⟨⟨hx, hb, hml, hown, hts⟩, hr, hlk, hK, hST, hN⟩ := id X
  intro I H locs ls h hp hl
  unfold wp_X7_copy_99 at h
  refine lv_aload_n hx hb dX7_copy_99 rfl (lv_at hl 0 rfl) ?_
  refine lv_iconst (v := (nI 2)) hx hb dX7_copy_100 (by decide) ?_
  refine ki (kV (As := [.int (nI 2)]) (rest := []) X hp (C_X7_found  h) tw_ml_X7_67 vf_X7_found ⟨rfl, rfl, Nat.le_of_ble_eq_true rfl, Nat.le_of_ble_eq_true rfl⟩ (pr_rcv X hp (k := 296) (by decide) (ob_296 _) (q := (RX7, TX7, 9)) rfl) rfl hl.1 rfl (Nat.le_of_ble_eq_true rfl) dX7_copy_101) hp (fun r2 I1 H locs h hp => ?_)
  exact rt_i X hp h dX7_copy_104
def wp_X7_copy (x1 : Int32) (x2 : Int32) (x3 : Int32) (x4 : Int32) (x5 : Int32) (I : II) (Q : Int32 → II → Prop) : Prop := (wp_X7_isRow x1 I (fun r2 I1 => ((r2 = 0 → (Q (-nI 1000001) I1)) ∧ (¬ r2 = 0 → (wp_X7_isRow x3 I1 (fun r5 I4 => ((¬ r5 = 0 → (wp_X4_isMissing x1 I4 (fun r8 I7 => ((¬ r8 = 0 → (wp_X7_copy_39 Q I7)) ∧ (r8 = 0 → (wp_X4_isMissing x3 I7 (fun r11 I10 => ((r11 = 0 → (wp_X4_laneOf x1 I10 (fun r14 I13 => (wp_X4_laneOf x3 I13 (fun r16 I15 => ((r14 = r16 → (wp_X4_hasSpan x1 x2 x5 I15 (fun r19 I18 => ((r19 = 0 → (wp_X7_copy_99 Q I18)) ∧ (¬ r19 = 0 → (wp_X4_hasSpan x3 x4 x5 I18 (fun r22 I21 => ((¬ r22 = 0 → (wp_X4_move x1 x2 x3 x4 x5 I21 (fun I24 => (wp_X7_fine x5 I24 (fun r27 I26 => (Q r27 I26)))))) ∧ (r22 = 0 → (wp_X7_copy_99 Q I21)))))))))) ∧ (¬ r14 = r16 → (wp_X7_found (nI 5) I15 (fun r29 I28 => (Q r29 I28)))))))))) ∧ (¬ r11 = 0 → (wp_X7_copy_39 Q I10)))))))))) ∧ (r5 = 0 → (Q (-nI 1000001) I4)))))))))
set_option maxHeartbeats 4000000 in
set_option maxRecDepth 100000 in
theorem w_X7_copy_0 {E : EE} {p : Program} {l : Launch} {e : Env} {s : State} {m : MethodId} {args : Array Value} {below : List Frame} {meth : Method} {c : Code} {Q : Int32 → II → Prop} (X : CX E p s m args meth c cX7_copy 6 (some .int) RX7) : ∀ (x1 : Int32) (x2 : Int32) (x3 : Int32) (x4 : Int32) (x5 : Int32) (I : II) (H : Heap) (locs : List Loc) (ls : Array Slot), wp_X7_copy x1 x2 x3 x4 x5 I Q → PP E s H locs I → lv_has ls 6 [(0, .ref (E.2.1 296)), (1, .int x1), (2, .int x2), (3, .int x3), (4, .int x4), (5, .int x5)] → W p l e rmX7_copy s m args below meth c H locs 0 0 (MQ below (va_Qi Q (BU E) E.2.2.2.1) args s 0 0 E.2.2.2.1) (F0 m 0 ls []) := by
  obtain ⟨⟨hx, hb, hml, hown, hts⟩, hr, hlk, hK, hST, hN⟩ := id X
  intro x1 x2 x3 x4 x5 I H locs ls h hp hl
  unfold wp_X7_copy at h
  refine lv_iload_n hx hb dX7_copy_0 rfl (lv_at hl 1 rfl) ?_
  refine ki (kS (As := [.int x1]) (rest := []) X hp (C_X7_isRow  h) tw_ml_X7_62 sf_X7_isRow ⟨rfl, rfl, Nat.le_of_ble_eq_true rfl, Nat.le_of_ble_eq_true rfl⟩ rfl hl.1 rfl (Nat.le_of_ble_eq_true rfl) dX7_copy_1) hp (fun r2 I1 H locs h hp => ?_)
  refine lv_if_eq (tgt := 14) hx hb dX7_copy_4 (by decide) (fun c3 => ?_) (fun c3 => ?_)
  · have h := h.1 c3
    refine lv_ldc (v := (-nI 1000001)) hx hb hown (hts _ tw_k_X7_66) dX7_copy_14 ?_
    exact rt_i X hp h dX7_copy_16
  · have h := h.2 c3
    refine lv_iload_n hx hb dX7_copy_7 rfl (lv_at hl 3 rfl) ?_
    refine ki (kS (As := [.int x3]) (rest := []) X hp (C_X7_isRow  h) tw_ml_X7_62 sf_X7_isRow ⟨rfl, rfl, Nat.le_of_ble_eq_true rfl, Nat.le_of_ble_eq_true rfl⟩ rfl hl.1 rfl (Nat.le_of_ble_eq_true rfl) dX7_copy_8) hp (fun r5 I4 H locs h hp => ?_)
    refine lv_if_ne (tgt := 17) hx hb dX7_copy_11 (by decide) (fun c6 => ?_) (fun c6 => ?_)
    · have h := h.1 c6
      refine lv_aload_n hx hb dX7_copy_17 rfl (lv_at hl 0 rfl) ?_
      refine f_X7_10 X hp dX7_copy_18 ?_
      refine lv_iload_n hx hb dX7_copy_21 rfl (lv_at hl 1 rfl) ?_
      refine ki (kV (As := [.int x1]) (rest := []) X hp (C_X4_isMissing  h) tw_ml_X7_85 vf_X4_isMissing ⟨rfl, rfl, Nat.le_of_ble_eq_true rfl, Nat.le_of_ble_eq_true rfl⟩ (pr_rcv X hp (k := 297) (by decide) (ob_297 _) (q := (RX4, TX4, 3)) rfl) rfl hl.1 rfl (Nat.le_of_ble_eq_true rfl) dX7_copy_22) hp (fun r8 I7 H locs h hp => ?_)
      refine lv_if_ne (tgt := 39) hx hb dX7_copy_25 (by decide) (fun c9 => ?_) (fun c9 => ?_)
      · have h := h.1 c9
        exact w_X7_copy_39 X  _ _ _ _ h hp (lv_sub hl [0] rfl)
      · have h := h.2 c9
        refine lv_aload_n hx hb dX7_copy_28 rfl (lv_at hl 0 rfl) ?_
        refine f_X7_10 X hp dX7_copy_29 ?_
        refine lv_iload_n hx hb dX7_copy_32 rfl (lv_at hl 3 rfl) ?_
        refine ki (kV (As := [.int x3]) (rest := []) X hp (C_X4_isMissing  h) tw_ml_X7_85 vf_X4_isMissing ⟨rfl, rfl, Nat.le_of_ble_eq_true rfl, Nat.le_of_ble_eq_true rfl⟩ (pr_rcv X hp (k := 297) (by decide) (ob_297 _) (q := (RX4, TX4, 3)) rfl) rfl hl.1 rfl (Nat.le_of_ble_eq_true rfl) dX7_copy_33) hp (fun r11 I10 H locs h hp => ?_)
        refine lv_if_eq (tgt := 45) hx hb dX7_copy_36 (by decide) (fun c12 => ?_) (fun c12 => ?_)
        · have h := h.1 c12
          refine lv_aload_n hx hb dX7_copy_45 rfl (lv_at hl 0 rfl) ?_
          refine f_X7_10 X hp dX7_copy_46 ?_
          refine lv_iload_n hx hb dX7_copy_49 rfl (lv_at hl 1 rfl) ?_
          refine ki (kV (As := [.int x1]) (rest := []) X hp (C_X4_laneOf  h) tw_ml_X7_88 vf_X4_laneOf ⟨rfl, rfl, Nat.le_of_ble_eq_true rfl, Nat.le_of_ble_eq_true rfl⟩ (pr_rcv X hp (k := 297) (by decide) (ob_297 _) (q := (RX4, TX4, 3)) rfl) rfl hl.1 rfl (Nat.le_of_ble_eq_true rfl) dX7_copy_50) hp (fun r14 I13 H locs h hp => ?_)
          refine lv_aload_n hx hb dX7_copy_53 rfl (lv_at hl 0 rfl) ?_
          refine f_X7_10 X hp dX7_copy_54 ?_
          refine lv_iload_n hx hb dX7_copy_57 rfl (lv_at hl 3 rfl) ?_
          refine ki (kV (As := [.int x3]) (rest := [.int r14]) X hp (C_X4_laneOf  h) tw_ml_X7_88 vf_X4_laneOf ⟨rfl, rfl, Nat.le_of_ble_eq_true rfl, Nat.le_of_ble_eq_true rfl⟩ (pr_rcv X hp (k := 297) (by decide) (ob_297 _) (q := (RX4, TX4, 3)) rfl) rfl hl.1 rfl (Nat.le_of_ble_eq_true rfl) dX7_copy_58) hp (fun r16 I15 H locs h hp => ?_)
          refine lv_icmp_eq (tgt := 70) hx hb dX7_copy_61 (by decide) (fun c17 => ?_) (fun c17 => ?_)
          · have h := h.1 c17
            refine lv_aload_n hx hb dX7_copy_70 rfl (lv_at hl 0 rfl) ?_
            refine f_X7_10 X hp dX7_copy_71 ?_
            refine lv_iload_n hx hb dX7_copy_74 rfl (lv_at hl 1 rfl) ?_
            refine lv_iload_n hx hb dX7_copy_75 rfl (lv_at hl 2 rfl) ?_
            refine lv_iload hx hb dX7_copy_76 (lv_at hl 5 rfl) ?_
            refine ki (kV (As := [.int x1, .int x2, .int x5]) (rest := []) X hp (C_X4_hasSpan  h) tw_ml_X7_91 vf_X4_hasSpan ⟨rfl, rfl, Nat.le_of_ble_eq_true rfl, Nat.le_of_ble_eq_true rfl⟩ (pr_rcv X hp (k := 297) (by decide) (ob_297 _) (q := (RX4, TX4, 3)) rfl) rfl hl.1 rfl (Nat.le_of_ble_eq_true rfl) dX7_copy_78) hp (fun r19 I18 H locs h hp => ?_)
            refine lv_if_eq (tgt := 99) hx hb dX7_copy_81 (by decide) (fun c20 => ?_) (fun c20 => ?_)
            · have h := h.1 c20
              exact w_X7_copy_99 X  _ _ _ _ h hp (lv_sub hl [0] rfl)
            · have h := h.2 c20
              refine lv_aload_n hx hb dX7_copy_84 rfl (lv_at hl 0 rfl) ?_
              refine f_X7_10 X hp dX7_copy_85 ?_
              refine lv_iload_n hx hb dX7_copy_88 rfl (lv_at hl 3 rfl) ?_
              refine lv_iload hx hb dX7_copy_89 (lv_at hl 4 rfl) ?_
              refine lv_iload hx hb dX7_copy_91 (lv_at hl 5 rfl) ?_
              refine ki (kV (As := [.int x3, .int x4, .int x5]) (rest := []) X hp (C_X4_hasSpan  h) tw_ml_X7_91 vf_X4_hasSpan ⟨rfl, rfl, Nat.le_of_ble_eq_true rfl, Nat.le_of_ble_eq_true rfl⟩ (pr_rcv X hp (k := 297) (by decide) (ob_297 _) (q := (RX4, TX4, 3)) rfl) rfl hl.1 rfl (Nat.le_of_ble_eq_true rfl) dX7_copy_93) hp (fun r22 I21 H locs h hp => ?_)
              refine lv_if_ne (tgt := 105) hx hb dX7_copy_96 (by decide) (fun c23 => ?_) (fun c23 => ?_)
              · have h := h.1 c23
                refine lv_aload_n hx hb dX7_copy_105 rfl (lv_at hl 0 rfl) ?_
                refine f_X7_10 X hp dX7_copy_106 ?_
                refine lv_iload_n hx hb dX7_copy_109 rfl (lv_at hl 1 rfl) ?_
                refine lv_iload_n hx hb dX7_copy_110 rfl (lv_at hl 2 rfl) ?_
                refine lv_iload_n hx hb dX7_copy_111 rfl (lv_at hl 3 rfl) ?_
                refine lv_iload hx hb dX7_copy_112 (lv_at hl 4 rfl) ?_
                refine lv_iload hx hb dX7_copy_114 (lv_at hl 5 rfl) ?_
                refine kv (kV (As := [.int x1, .int x2, .int x3, .int x4, .int x5]) (rest := []) X hp (C_X4_move  h) tw_ml_X7_95 vf_X4_move ⟨rfl, rfl, Nat.le_of_ble_eq_true rfl, Nat.le_of_ble_eq_true rfl⟩ (pr_rcv X hp (k := 297) (by decide) (ob_297 _) (q := (RX4, TX4, 3)) rfl) rfl hl.1 rfl (Nat.le_of_ble_eq_true rfl) dX7_copy_116) hp (fun I24 H locs h hp => ?_)
                refine lv_aload_n hx hb dX7_copy_119 rfl (lv_at hl 0 rfl) ?_
                refine lv_iload hx hb dX7_copy_120 (lv_at hl 5 rfl) ?_
                refine ki (kV (As := [.int x5]) (rest := []) X hp (C_X7_fine  h) tw_ml_X7_75 vf_X7_fine ⟨rfl, rfl, Nat.le_of_ble_eq_true rfl, Nat.le_of_ble_eq_true rfl⟩ (pr_rcv X hp (k := 296) (by decide) (ob_296 _) (q := (RX7, TX7, 9)) rfl) rfl hl.1 rfl (Nat.le_of_ble_eq_true rfl) dX7_copy_122) hp (fun r27 I26 H locs h hp => ?_)
                exact rt_i X hp h dX7_copy_125
              · have h := h.2 c23
                exact w_X7_copy_99 X  _ _ _ _ h hp (lv_sub hl [0] rfl)
          · have h := h.2 c17
            refine lv_aload_n hx hb dX7_copy_64 rfl (lv_at hl 0 rfl) ?_
            refine lv_iconst (v := (nI 5)) hx hb dX7_copy_65 (by decide) ?_
            refine ki (kV (As := [.int (nI 5)]) (rest := []) X hp (C_X7_found  h) tw_ml_X7_67 vf_X7_found ⟨rfl, rfl, Nat.le_of_ble_eq_true rfl, Nat.le_of_ble_eq_true rfl⟩ (pr_rcv X hp (k := 296) (by decide) (ob_296 _) (q := (RX7, TX7, 9)) rfl) rfl hl.1 rfl (Nat.le_of_ble_eq_true rfl) dX7_copy_66) hp (fun r29 I28 H locs h hp => ?_)
            exact rt_i X hp h dX7_copy_69
        · have h := h.2 c12
          exact w_X7_copy_39 X  _ _ _ _ h hp (lv_sub hl [0] rfl)
    · have h := h.2 c6
      refine lv_ldc (v := (-nI 1000001)) hx hb hown (hts _ tw_k_X7_66) dX7_copy_14 ?_
      exact rt_i X hp h dX7_copy_16
set_option maxRecDepth 100000 in
theorem C_X7_copy {E : EE} {l : Launch} {x1 : Int32} {x2 : Int32} {x3 : Int32} {x4 : Int32} {x5 : Int32} {I : II} {Q : Int32 → II → Prop} (h : wp_X7_copy x1 x2 x3 x4 x5 I Q) : Met l yX7_copy (Cond.code yX7_copy cX7_copy 6 (some .int) :: lwT) rmX7_copy (va_Pc [.ref (E.2.1 296), .int x1, .int x2, .int x3, .int x4, .int x5] (PU E I)) (va_Qi Q (BU E) E.2.2.2.1) 0 0 E.2.2.2.1 :=
  ofWalk [.ref (E.2.1 296), .int x1, .int x2, .int x3, .int x4, .int x5] (by decide) tw_c_X7_copy (Nat.le_of_ble_eq_true rfl) (fun p e s m below meth c ls X hp hl => w_X7_copy_0 X _ _ _ _ _ _ _ _ _ h hp hl)
abbrev rmX7_drop : Room := { frames := 3, cells := 0, slots := 0, locals := 63 }
theorem vf_X7_drop : VF yX7_drop RX7 cX7_drop 2 (some .int) 1 := ⟨tw_in_X7, tw_im_X7_drop, tw_se_X7_drop, tw_c_X7_drop, by decide, by decide, by decide +kernel⟩
def wp_X7_drop (x1 : Int32) (I : II) (Q : Int32 → II → Prop) : Prop := (wp_X7_isRow x1 I (fun r2 I1 => ((¬ r2 = 0 → (wp_X4_isMissing x1 I1 (fun r5 I4 => ((r5 = 0 → (wp_X4_remove x1 I4 (fun r8 I7 => (wp_X7_fine r8 I7 (fun r10 I9 => (Q r10 I9)))))) ∧ (¬ r5 = 0 → (wp_X7_found (nI 1) I4 (fun r12 I11 => (Q r12 I11)))))))) ∧ (r2 = 0 → (Q (-nI 1000001) I1)))))
set_option maxHeartbeats 4000000 in
set_option maxRecDepth 100000 in
theorem w_X7_drop_0 {E : EE} {p : Program} {l : Launch} {e : Env} {s : State} {m : MethodId} {args : Array Value} {below : List Frame} {meth : Method} {c : Code} {Q : Int32 → II → Prop} (X : CX E p s m args meth c cX7_drop 2 (some .int) RX7) : ∀ (x1 : Int32) (I : II) (H : Heap) (locs : List Loc) (ls : Array Slot), wp_X7_drop x1 I Q → PP E s H locs I → lv_has ls 2 [(0, .ref (E.2.1 296)), (1, .int x1)] → W p l e rmX7_drop s m args below meth c H locs 0 0 (MQ below (va_Qi Q (BU E) E.2.2.2.1) args s 0 0 E.2.2.2.1) (F0 m 0 ls []) := by
  obtain ⟨⟨hx, hb, hml, hown, hts⟩, hr, hlk, hK, hST, hN⟩ := id X
  intro x1 I H locs ls h hp hl
  unfold wp_X7_drop at h
  refine lv_iload_n hx hb dX7_drop_0 rfl (lv_at hl 1 rfl) ?_
  refine ki (kS (As := [.int x1]) (rest := []) X hp (C_X7_isRow  h) tw_ml_X7_62 sf_X7_isRow ⟨rfl, rfl, Nat.le_of_ble_eq_true rfl, Nat.le_of_ble_eq_true rfl⟩ rfl hl.1 rfl (Nat.le_of_ble_eq_true rfl) dX7_drop_1) hp (fun r2 I1 H locs h hp => ?_)
  refine lv_if_ne (tgt := 10) hx hb dX7_drop_4 (by decide) (fun c3 => ?_) (fun c3 => ?_)
  · have h := h.1 c3
    refine lv_aload_n hx hb dX7_drop_10 rfl (lv_at hl 0 rfl) ?_
    refine f_X7_10 X hp dX7_drop_11 ?_
    refine lv_iload_n hx hb dX7_drop_14 rfl (lv_at hl 1 rfl) ?_
    refine ki (kV (As := [.int x1]) (rest := []) X hp (C_X4_isMissing  h) tw_ml_X7_85 vf_X4_isMissing ⟨rfl, rfl, Nat.le_of_ble_eq_true rfl, Nat.le_of_ble_eq_true rfl⟩ (pr_rcv X hp (k := 297) (by decide) (ob_297 _) (q := (RX4, TX4, 3)) rfl) rfl hl.1 rfl (Nat.le_of_ble_eq_true rfl) dX7_drop_15) hp (fun r5 I4 H locs h hp => ?_)
    refine lv_if_eq (tgt := 29) hx hb dX7_drop_18 (by decide) (fun c6 => ?_) (fun c6 => ?_)
    · have h := h.1 c6
      refine lv_aload_n hx hb dX7_drop_29 rfl (lv_at hl 0 rfl) ?_
      refine lv_aload_n hx hb dX7_drop_30 rfl (lv_at hl 0 rfl) ?_
      refine f_X7_10 X hp dX7_drop_31 ?_
      refine lv_iload_n hx hb dX7_drop_34 rfl (lv_at hl 1 rfl) ?_
      refine ki (kV (As := [.int x1]) (rest := [.ref (E.2.1 296)]) X hp (C_X4_remove  h) tw_ml_X7_99 vf_X4_remove ⟨rfl, rfl, Nat.le_of_ble_eq_true rfl, Nat.le_of_ble_eq_true rfl⟩ (pr_rcv X hp (k := 297) (by decide) (ob_297 _) (q := (RX4, TX4, 3)) rfl) rfl hl.1 rfl (Nat.le_of_ble_eq_true rfl) dX7_drop_35) hp (fun r8 I7 H locs h hp => ?_)
      refine ki (kV (As := [.int r8]) (rest := []) X hp (C_X7_fine  h) tw_ml_X7_75 vf_X7_fine ⟨rfl, rfl, Nat.le_of_ble_eq_true rfl, Nat.le_of_ble_eq_true rfl⟩ (pr_rcv X hp (k := 296) (by decide) (ob_296 _) (q := (RX7, TX7, 9)) rfl) rfl hl.1 rfl (Nat.le_of_ble_eq_true rfl) dX7_drop_38) hp (fun r10 I9 H locs h hp => ?_)
      exact rt_i X hp h dX7_drop_41
    · have h := h.2 c6
      refine lv_aload_n hx hb dX7_drop_21 rfl (lv_at hl 0 rfl) ?_
      refine lv_iconst (v := (nI 1)) hx hb dX7_drop_22 (by decide) ?_
      refine ki (kV (As := [.int (nI 1)]) (rest := []) X hp (C_X7_found  h) tw_ml_X7_67 vf_X7_found ⟨rfl, rfl, Nat.le_of_ble_eq_true rfl, Nat.le_of_ble_eq_true rfl⟩ (pr_rcv X hp (k := 296) (by decide) (ob_296 _) (q := (RX7, TX7, 9)) rfl) rfl hl.1 rfl (Nat.le_of_ble_eq_true rfl) dX7_drop_23) hp (fun r12 I11 H locs h hp => ?_)
      refine lv_goto (tgt := 41) hx hb dX7_drop_26 (by decide) ?_
      exact rt_i X hp h dX7_drop_41
  · have h := h.2 c3
    refine lv_ldc (v := (-nI 1000001)) hx hb hown (hts _ tw_k_X7_66) dX7_drop_7 ?_
    exact rt_i X hp h dX7_drop_9
set_option maxRecDepth 100000 in
theorem C_X7_drop {E : EE} {l : Launch} {x1 : Int32} {I : II} {Q : Int32 → II → Prop} (h : wp_X7_drop x1 I Q) : Met l yX7_drop (Cond.code yX7_drop cX7_drop 2 (some .int) :: lwT) rmX7_drop (va_Pc [.ref (E.2.1 296), .int x1] (PU E I)) (va_Qi Q (BU E) E.2.2.2.1) 0 0 E.2.2.2.1 :=
  ofWalk [.ref (E.2.1 296), .int x1] (by decide) tw_c_X7_drop (Nat.le_of_ble_eq_true rfl) (fun p e s m below meth c ls X hp hl => w_X7_drop_0 X _ _ _ _ _ h hp hl)
abbrev rmX7_feed : Room := { frames := 1, cells := 0, slots := 0, locals := 21 }
theorem vf_X7_feed : VF yX7_feed RX7 cX7_feed 2 (some .int) 1 := ⟨tw_in_X7, tw_im_X7_feed, tw_se_X7_feed, tw_c_X7_feed, by decide, by decide, by decide +kernel⟩
def wp_X7_feed (x1 : Int32) (I : II) (Q : Int32 → II → Prop) : Prop := ((x1 < 0 → (Q (-nI 1000001) I)) ∧ (¬ x1 < 0 → ((x1 ≤ (nI 255) → (wp_X6_add x1 I (fun r4 I3 => ((r4 = 0 → (Q (-nI 1000003) I3)) ∧ (¬ r4 = 0 → (Q (I3 301 2) I3)))))) ∧ (¬ x1 ≤ (nI 255) → (Q (-nI 1000001) I)))))
set_option maxHeartbeats 4000000 in
set_option maxRecDepth 100000 in
theorem w_X7_feed_0 {E : EE} {p : Program} {l : Launch} {e : Env} {s : State} {m : MethodId} {args : Array Value} {below : List Frame} {meth : Method} {c : Code} {Q : Int32 → II → Prop} (X : CX E p s m args meth c cX7_feed 2 (some .int) RX7) : ∀ (x1 : Int32) (I : II) (H : Heap) (locs : List Loc) (ls : Array Slot), wp_X7_feed x1 I Q → PP E s H locs I → lv_has ls 2 [(0, .ref (E.2.1 296)), (1, .int x1)] → W p l e rmX7_feed s m args below meth c H locs 0 0 (MQ below (va_Qi Q (BU E) E.2.2.2.1) args s 0 0 E.2.2.2.1) (F0 m 0 ls []) := by
  obtain ⟨⟨hx, hb, hml, hown, hts⟩, hr, hlk, hK, hST, hN⟩ := id X
  intro x1 I H locs ls h hp hl
  unfold wp_X7_feed at h
  refine lv_iload_n hx hb dX7_feed_0 rfl (lv_at hl 1 rfl) ?_
  refine lv_if_lt (tgt := 11) hx hb dX7_feed_1 (by decide) (fun c1 => ?_) (fun c1 => ?_)
  · have h := h.1 c1
    refine lv_ldc (v := (-nI 1000001)) hx hb hown (hts _ tw_k_X7_66) dX7_feed_11 ?_
    exact rt_i X hp h dX7_feed_13
  · have h := h.2 c1
    refine lv_iload_n hx hb dX7_feed_4 rfl (lv_at hl 1 rfl) ?_
    refine lv_sipush (v := (nI 255)) hx hb dX7_feed_5 (by decide) ?_
    refine lv_icmp_le (tgt := 14) hx hb dX7_feed_8 (by decide) (fun c2 => ?_) (fun c2 => ?_)
    · have h := h.1 c2
      refine lv_aload_n hx hb dX7_feed_14 rfl (lv_at hl 0 rfl) ?_
      refine f_X7_19 X hp dX7_feed_15 ?_
      refine lv_iload_n hx hb dX7_feed_18 rfl (lv_at hl 1 rfl) ?_
      refine ki (kV (As := [.int x1]) (rest := []) X hp (C_X6_add  h) tw_ml_X7_102 vf_X6_add ⟨rfl, rfl, Nat.le_of_ble_eq_true rfl, Nat.le_of_ble_eq_true rfl⟩ (pr_rcv X hp (k := 301) (by decide) (ob_301 _) (q := (RX6, TX6, 6)) rfl) rfl hl.1 rfl (Nat.le_of_ble_eq_true rfl) dX7_feed_19) hp (fun r4 I3 H locs h hp => ?_)
      refine lv_if_eq (tgt := 35) hx hb dX7_feed_22 (by decide) (fun c5 => ?_) (fun c5 => ?_)
      · have h := h.1 c5
        refine lv_ldc (v := (-nI 1000003)) hx hb hown (hts _ tw_k_X7_109) dX7_feed_35 ?_
        exact rt_i X hp h dX7_feed_37
      · have h := h.2 c5
        refine lv_aload_n hx hb dX7_feed_25 rfl (lv_at hl 0 rfl) ?_
        refine f_X7_19 X hp dX7_feed_26 ?_
        refine f_X7_105 X hp dX7_feed_29 ?_
        refine lv_goto (tgt := 37) hx hb dX7_feed_32 (by decide) ?_
        exact rt_i X hp h dX7_feed_37
    · have h := h.2 c2
      refine lv_ldc (v := (-nI 1000001)) hx hb hown (hts _ tw_k_X7_66) dX7_feed_11 ?_
      exact rt_i X hp h dX7_feed_13
set_option maxRecDepth 100000 in
theorem C_X7_feed {E : EE} {l : Launch} {x1 : Int32} {I : II} {Q : Int32 → II → Prop} (h : wp_X7_feed x1 I Q) : Met l yX7_feed (Cond.code yX7_feed cX7_feed 2 (some .int) :: lwT) rmX7_feed (va_Pc [.ref (E.2.1 296), .int x1] (PU E I)) (va_Qi Q (BU E) E.2.2.2.1) 0 0 E.2.2.2.1 :=
  ofWalk [.ref (E.2.1 296), .int x1] (by decide) tw_c_X7_feed (Nat.le_of_ble_eq_true rfl) (fun p e s m below meth c ls X hp hl => w_X7_feed_0 X _ _ _ _ _ h hp hl)
abbrev rmX7_standAs : Room := { frames := 2, cells := 0, slots := 0, locals := 44 }
theorem vf_X7_standAs : VF yX7_standAs RX7 cX7_standAs 2 none 1 := ⟨tw_in_X7, tw_im_X7_standAs, tw_se_X7_standAs, tw_c_X7_standAs, by decide, by decide, by decide +kernel⟩
def wp_X7_standAs (j : Nat) (I : II) (Q : II → Prop) : Prop := (wp_X1_takeAll 0 j I (fun I1 => (wp_X3_clear I1 (fun I3 => (wp_X5_forget I3 (fun I5 => (Q I5)))))))
set_option maxHeartbeats 4000000 in
set_option maxRecDepth 100000 in
theorem w_X7_standAs_0 {E : EE} {p : Program} {l : Launch} {e : Env} {s : State} {m : MethodId} {args : Array Value} {below : List Frame} {meth : Method} {c : Code} {Q : II → Prop} (X : CX E p s m args meth c cX7_standAs 2 none RX7) {j : Nat} (hj : j < 37) : ∀ (I : II) (H : Heap) (locs : List Loc) (ls : Array Slot), wp_X7_standAs j I Q → PP E s H locs I → lv_has ls 2 [(0, .ref (E.2.1 296)), (1, .ref (E.2.1 (8 * j)))] → W p l e rmX7_standAs s m args below meth c H locs 0 0 (MQ below (va_Qv Q (BU E) E.2.2.2.1) args s 0 0 E.2.2.2.1) (F0 m 0 ls []) := by
  obtain ⟨⟨hx, hb, hml, hown, hts⟩, hr, hlk, hK, hST, hN⟩ := id X
  intro I H locs ls h hp hl
  unfold wp_X7_standAs at h
  refine lv_aload_n hx hb dX7_standAs_0 rfl (lv_at hl 0 rfl) ?_
  refine f_X7_26 X hp dX7_standAs_1 ?_
  refine lv_aload_n hx hb dX7_standAs_4 rfl (lv_at hl 1 rfl) ?_
  refine kv (kV (As := [.ref (E.2.1 (8 * j))]) (rest := []) X hp (C_X1_takeAll (by decide) hj h) tw_ml_X7_326 vf_X1_takeAll ⟨rfl, rfl, Nat.le_of_ble_eq_true rfl, Nat.le_of_ble_eq_true rfl⟩ (pr_rcvb X hp (by decide)) rfl hl.1 rfl (Nat.le_of_ble_eq_true rfl) dX7_standAs_5) hp (fun I1 H locs h hp => ?_)
  refine lv_aload_n hx hb dX7_standAs_8 rfl (lv_at hl 0 rfl) ?_
  refine f_X7_33 X hp dX7_standAs_9 ?_
  refine kv (kV (As := []) (rest := []) X hp (C_X3_clear  h) tw_ml_X7_356 vf_X3_clear ⟨rfl, rfl, Nat.le_of_ble_eq_true rfl, Nat.le_of_ble_eq_true rfl⟩ (pr_rcv X hp (k := 303) (by decide) (ob_303 _) (q := (RX3, TX3, 3)) rfl) rfl hl.1 rfl (Nat.le_of_ble_eq_true rfl) dX7_standAs_12) hp (fun I3 H locs h hp => ?_)
  refine lv_aload_n hx hb dX7_standAs_15 rfl (lv_at hl 0 rfl) ?_
  refine f_X7_51 X hp dX7_standAs_16 ?_
  refine kv (kV (As := []) (rest := []) X hp (C_X5_forget  h) tw_ml_X7_136 vf_X5_forget ⟨rfl, rfl, Nat.le_of_ble_eq_true rfl, Nat.le_of_ble_eq_true rfl⟩ (pr_rcv X hp (k := 308) (by decide) (ob_308 _) (q := (RX5, TX5, 11)) rfl) rfl hl.1 rfl (Nat.le_of_ble_eq_true rfl) dX7_standAs_19) hp (fun I5 H locs h hp => ?_)
  exact rt_v X hp h dX7_standAs_22
set_option maxRecDepth 100000 in
theorem C_X7_standAs {E : EE} {l : Launch} {j : Nat} (hj : j < 37) {I : II} {Q : II → Prop} (h : wp_X7_standAs j I Q) : Met l yX7_standAs (Cond.code yX7_standAs cX7_standAs 2 none :: lwT) rmX7_standAs (va_Pc [.ref (E.2.1 296), .ref (E.2.1 (8 * j))] (PU E I)) (va_Qv Q (BU E) E.2.2.2.1) 0 0 E.2.2.2.1 :=
  ofWalk [.ref (E.2.1 296), .ref (E.2.1 (8 * j))] (by decide) tw_c_X7_standAs (Nat.le_of_ble_eq_true rfl) (fun p e s m below meth c ls X hp hl => w_X7_standAs_0 X hj _ _ _ _ h hp hl)
abbrev rmX7_bank : Room := { frames := 5, cells := 0, slots := 0, locals := 111 }
theorem vf_X7_bank : VF yX7_bank RX7 cX7_bank 1 (some .int) 0 := ⟨tw_in_X7, tw_im_X7_bank, tw_se_X7_bank, tw_c_X7_bank, by decide, by decide, by decide +kernel⟩
def wp_X7_bank (I : II) (Q : Int32 → II → Prop) : Prop := (wp_X6_readAll I (fun r2 I1 => ((¬ r2 = 0 → (wp_X7_standAs 1 I1 (fun I4 => (Q (I4 (8 * 0) 2) I4)))) ∧ (r2 = 0 → (Q ((-nI 1000100) - (I1 301 3)) I1)))))
set_option maxHeartbeats 4000000 in
set_option maxRecDepth 100000 in
theorem w_X7_bank_0 {E : EE} {p : Program} {l : Launch} {e : Env} {s : State} {m : MethodId} {args : Array Value} {below : List Frame} {meth : Method} {c : Code} {Q : Int32 → II → Prop} (X : CX E p s m args meth c cX7_bank 1 (some .int) RX7) : ∀ (I : II) (H : Heap) (locs : List Loc) (ls : Array Slot), wp_X7_bank I Q → PP E s H locs I → lv_has ls 1 [(0, .ref (E.2.1 296))] → W p l e rmX7_bank s m args below meth c H locs 0 0 (MQ below (va_Qi Q (BU E) E.2.2.2.1) args s 0 0 E.2.2.2.1) (F0 m 0 ls []) := by
  obtain ⟨⟨hx, hb, hml, hown, hts⟩, hr, hlk, hK, hST, hN⟩ := id X
  intro I H locs ls h hp hl
  unfold wp_X7_bank at h
  refine lv_aload_n hx hb dX7_bank_0 rfl (lv_at hl 0 rfl) ?_
  refine f_X7_19 X hp dX7_bank_1 ?_
  refine ki (kV (As := []) (rest := []) X hp (C_X6_readAll  h) tw_ml_X7_110 vf_X6_readAll ⟨rfl, rfl, Nat.le_of_ble_eq_true rfl, Nat.le_of_ble_eq_true rfl⟩ (pr_rcv X hp (k := 301) (by decide) (ob_301 _) (q := (RX6, TX6, 6)) rfl) rfl hl.1 rfl (Nat.le_of_ble_eq_true rfl) dX7_bank_4) hp (fun r2 I1 H locs h hp => ?_)
  refine lv_if_ne (tgt := 21) hx hb dX7_bank_7 (by decide) (fun c3 => ?_) (fun c3 => ?_)
  · have h := h.1 c3
    refine lv_aload_n hx hb dX7_bank_21 rfl (lv_at hl 0 rfl) ?_
    refine lv_aload_n hx hb dX7_bank_22 rfl (lv_at hl 0 rfl) ?_
    refine f_X7_19 X hp dX7_bank_23 ?_
    refine f_X7_118 X hp dX7_bank_26 ?_
    refine kv (kV (As := [.ref (E.2.1 (8 * 1))]) (rest := []) X hp (C_X7_standAs (by decide) h) tw_ml_X7_121 vf_X7_standAs ⟨rfl, rfl, Nat.le_of_ble_eq_true rfl, Nat.le_of_ble_eq_true rfl⟩ (pr_rcv X hp (k := 296) (by decide) (ob_296 _) (q := (RX7, TX7, 9)) rfl) rfl hl.1 rfl (Nat.le_of_ble_eq_true rfl) dX7_bank_29) hp (fun I4 H locs h hp => ?_)
    refine lv_aload_n hx hb dX7_bank_32 rfl (lv_at hl 0 rfl) ?_
    refine f_X7_26 X hp dX7_bank_33 ?_
    refine f_X7_125 X hp (by decide) dX7_bank_36 ?_
    exact rt_i X hp h dX7_bank_39
  · have h := h.2 c3
    refine lv_ldc (v := (-nI 1000100)) hx hb hown (hts _ tw_k_X7_114) dX7_bank_10 ?_
    refine lv_aload_n hx hb dX7_bank_12 rfl (lv_at hl 0 rfl) ?_
    refine f_X7_19 X hp dX7_bank_13 ?_
    refine f_X7_115 X hp dX7_bank_16 ?_
    refine lv_isub hx hb dX7_bank_19 ?_
    exact rt_i X hp h dX7_bank_20
set_option maxRecDepth 100000 in
theorem C_X7_bank {E : EE} {l : Launch} {I : II} {Q : Int32 → II → Prop} (h : wp_X7_bank I Q) : Met l yX7_bank (Cond.code yX7_bank cX7_bank 1 (some .int) :: lwT) rmX7_bank (va_Pc [.ref (E.2.1 296)] (PU E I)) (va_Qi Q (BU E) E.2.2.2.1) 0 0 E.2.2.2.1 :=
  ofWalk [.ref (E.2.1 296)] (by decide) tw_c_X7_bank (Nat.le_of_ble_eq_true rfl) (fun p e s m below meth c ls X hp hl => w_X7_bank_0 X _ _ _ _ h hp hl)
abbrev rmX7_fault : Room := { frames := 0, cells := 0, slots := 0, locals := 0 }
theorem vf_X7_fault : VF yX7_fault RX7 cX7_fault 1 (some .int) 0 := ⟨tw_in_X7, tw_im_X7_fault, tw_se_X7_fault, tw_c_X7_fault, by decide, by decide, by decide +kernel⟩
def wp_X7_fault (I : II) (Q : Int32 → II → Prop) : Prop := (Q (I 301 5) I)
set_option maxHeartbeats 4000000 in
set_option maxRecDepth 100000 in
theorem w_X7_fault_0 {E : EE} {p : Program} {l : Launch} {e : Env} {s : State} {m : MethodId} {args : Array Value} {below : List Frame} {meth : Method} {c : Code} {Q : Int32 → II → Prop} (X : CX E p s m args meth c cX7_fault 1 (some .int) RX7) : ∀ (I : II) (H : Heap) (locs : List Loc) (ls : Array Slot), wp_X7_fault I Q → PP E s H locs I → lv_has ls 1 [(0, .ref (E.2.1 296))] → W p l e rmX7_fault s m args below meth c H locs 0 0 (MQ below (va_Qi Q (BU E) E.2.2.2.1) args s 0 0 E.2.2.2.1) (F0 m 0 ls []) := by
  obtain ⟨⟨hx, hb, hml, hown, hts⟩, hr, hlk, hK, hST, hN⟩ := id X
  intro I H locs ls h hp hl
  unfold wp_X7_fault at h
  refine lv_aload_n hx hb dX7_fault_0 rfl (lv_at hl 0 rfl) ?_
  refine f_X7_19 X hp dX7_fault_1 ?_
  refine f_X7_128 X hp dX7_fault_4 ?_
  exact rt_i X hp h dX7_fault_7
set_option maxRecDepth 100000 in
theorem C_X7_fault {E : EE} {l : Launch} {I : II} {Q : Int32 → II → Prop} (h : wp_X7_fault I Q) : Met l yX7_fault (Cond.code yX7_fault cX7_fault 1 (some .int) :: lwT) rmX7_fault (va_Pc [.ref (E.2.1 296)] (PU E I)) (va_Qi Q (BU E) E.2.2.2.1) 0 0 E.2.2.2.1 :=
  ofWalk [.ref (E.2.1 296)] (by decide) tw_c_X7_fault (Nat.le_of_ble_eq_true rfl) (fun p e s m below meth c ls X hp hl => w_X7_fault_0 X _ _ _ _ h hp hl)
abbrev rmX7_undo : Room := { frames := 3, cells := 0, slots := 0, locals := 65 }
theorem vf_X7_undo : VF yX7_undo RX7 cX7_undo 1 (some .int) 0 := ⟨tw_in_X7, tw_im_X7_undo, tw_se_X7_undo, tw_c_X7_undo, by decide, by decide, by decide +kernel⟩
def wp_X7_undo (I : II) (Q : Int32 → II → Prop) : Prop := ((¬ (I 303 2) = 0 → (wp_X3_goBack 0 I (fun I2 => (wp_X5_forget I2 (fun I4 => (Q (I4 303 2) I4)))))) ∧ ((I 303 2) = 0 → (Q (-nI 1000002) I)))
set_option maxHeartbeats 4000000 in
set_option maxRecDepth 100000 in
theorem w_X7_undo_0 {E : EE} {p : Program} {l : Launch} {e : Env} {s : State} {m : MethodId} {args : Array Value} {below : List Frame} {meth : Method} {c : Code} {Q : Int32 → II → Prop} (X : CX E p s m args meth c cX7_undo 1 (some .int) RX7) : ∀ (I : II) (H : Heap) (locs : List Loc) (ls : Array Slot), wp_X7_undo I Q → PP E s H locs I → lv_has ls 1 [(0, .ref (E.2.1 296))] → W p l e rmX7_undo s m args below meth c H locs 0 0 (MQ below (va_Qi Q (BU E) E.2.2.2.1) args s 0 0 E.2.2.2.1) (F0 m 0 ls []) := by
  obtain ⟨⟨hx, hb, hml, hown, hts⟩, hr, hlk, hK, hST, hN⟩ := id X
  intro I H locs ls h hp hl
  unfold wp_X7_undo at h
  refine lv_aload_n hx hb dX7_undo_0 rfl (lv_at hl 0 rfl) ?_
  refine f_X7_33 X hp dX7_undo_1 ?_
  refine f_X7_131 X hp dX7_undo_4 ?_
  refine lv_if_ne (tgt := 13) hx hb dX7_undo_7 (by decide) (fun c1 => ?_) (fun c1 => ?_)
  · have h := h.1 c1
    refine lv_aload_n hx hb dX7_undo_13 rfl (lv_at hl 0 rfl) ?_
    refine f_X7_33 X hp dX7_undo_14 ?_
    refine lv_aload_n hx hb dX7_undo_17 rfl (lv_at hl 0 rfl) ?_
    refine f_X7_26 X hp dX7_undo_18 ?_
    refine kv (kV (As := [.ref (E.2.1 (8 * 0))]) (rest := []) X hp (C_X3_goBack (by decide) h) tw_ml_X7_133 vf_X3_goBack ⟨rfl, rfl, Nat.le_of_ble_eq_true rfl, Nat.le_of_ble_eq_true rfl⟩ (pr_rcv X hp (k := 303) (by decide) (ob_303 _) (q := (RX3, TX3, 3)) rfl) rfl hl.1 rfl (Nat.le_of_ble_eq_true rfl) dX7_undo_21) hp (fun I2 H locs h hp => ?_)
    refine lv_aload_n hx hb dX7_undo_24 rfl (lv_at hl 0 rfl) ?_
    refine f_X7_51 X hp dX7_undo_25 ?_
    refine kv (kV (As := []) (rest := []) X hp (C_X5_forget  h) tw_ml_X7_136 vf_X5_forget ⟨rfl, rfl, Nat.le_of_ble_eq_true rfl, Nat.le_of_ble_eq_true rfl⟩ (pr_rcv X hp (k := 308) (by decide) (ob_308 _) (q := (RX5, TX5, 11)) rfl) rfl hl.1 rfl (Nat.le_of_ble_eq_true rfl) dX7_undo_28) hp (fun I4 H locs h hp => ?_)
    refine lv_aload_n hx hb dX7_undo_31 rfl (lv_at hl 0 rfl) ?_
    refine f_X7_33 X hp dX7_undo_32 ?_
    refine f_X7_131 X hp dX7_undo_35 ?_
    exact rt_i X hp h dX7_undo_38
  · have h := h.2 c1
    refine lv_ldc (v := (-nI 1000002)) hx hb hown (hts _ tw_k_X7_132) dX7_undo_10 ?_
    exact rt_i X hp h dX7_undo_12
set_option maxRecDepth 100000 in
theorem C_X7_undo {E : EE} {l : Launch} {I : II} {Q : Int32 → II → Prop} (h : wp_X7_undo I Q) : Met l yX7_undo (Cond.code yX7_undo cX7_undo 1 (some .int) :: lwT) rmX7_undo (va_Pc [.ref (E.2.1 296)] (PU E I)) (va_Qi Q (BU E) E.2.2.2.1) 0 0 E.2.2.2.1 :=
  ofWalk [.ref (E.2.1 296)] (by decide) tw_c_X7_undo (Nat.le_of_ble_eq_true rfl) (fun p e s m below meth c ls X hp hl => w_X7_undo_0 X _ _ _ _ h hp hl)
abbrev rmX7_beginAct : Room := { frames := 3, cells := 0, slots := 0, locals := 65 }
theorem vf_X7_beginAct : VF yX7_beginAct RX7 cX7_beginAct 1 none 0 := ⟨tw_in_X7, tw_im_X7_beginAct, tw_se_X7_beginAct, tw_c_X7_beginAct, by decide, by decide, by decide +kernel⟩
def wp_X7_beginAct (I : II) (Q : II → Prop) : Prop := (wp_X3_keep 0 I (fun I1 => (wp_X5_forget I1 (fun I3 => (Q I3)))))
set_option maxHeartbeats 4000000 in
set_option maxRecDepth 100000 in
theorem w_X7_beginAct_0 {E : EE} {p : Program} {l : Launch} {e : Env} {s : State} {m : MethodId} {args : Array Value} {below : List Frame} {meth : Method} {c : Code} {Q : II → Prop} (X : CX E p s m args meth c cX7_beginAct 1 none RX7) : ∀ (I : II) (H : Heap) (locs : List Loc) (ls : Array Slot), wp_X7_beginAct I Q → PP E s H locs I → lv_has ls 1 [(0, .ref (E.2.1 296))] → W p l e rmX7_beginAct s m args below meth c H locs 0 0 (MQ below (va_Qv Q (BU E) E.2.2.2.1) args s 0 0 E.2.2.2.1) (F0 m 0 ls []) := by
  obtain ⟨⟨hx, hb, hml, hown, hts⟩, hr, hlk, hK, hST, hN⟩ := id X
  intro I H locs ls h hp hl
  unfold wp_X7_beginAct at h
  refine lv_aload_n hx hb dX7_beginAct_0 rfl (lv_at hl 0 rfl) ?_
  refine f_X7_33 X hp dX7_beginAct_1 ?_
  refine lv_aload_n hx hb dX7_beginAct_4 rfl (lv_at hl 0 rfl) ?_
  refine f_X7_26 X hp dX7_beginAct_5 ?_
  refine kv (kV (As := [.ref (E.2.1 (8 * 0))]) (rest := []) X hp (C_X3_keep (by decide) h) tw_ml_X7_353 vf_X3_keep ⟨rfl, rfl, Nat.le_of_ble_eq_true rfl, Nat.le_of_ble_eq_true rfl⟩ (pr_rcv X hp (k := 303) (by decide) (ob_303 _) (q := (RX3, TX3, 3)) rfl) rfl hl.1 rfl (Nat.le_of_ble_eq_true rfl) dX7_beginAct_8) hp (fun I1 H locs h hp => ?_)
  refine lv_aload_n hx hb dX7_beginAct_11 rfl (lv_at hl 0 rfl) ?_
  refine f_X7_51 X hp dX7_beginAct_12 ?_
  refine kv (kV (As := []) (rest := []) X hp (C_X5_forget  h) tw_ml_X7_136 vf_X5_forget ⟨rfl, rfl, Nat.le_of_ble_eq_true rfl, Nat.le_of_ble_eq_true rfl⟩ (pr_rcv X hp (k := 308) (by decide) (ob_308 _) (q := (RX5, TX5, 11)) rfl) rfl hl.1 rfl (Nat.le_of_ble_eq_true rfl) dX7_beginAct_15) hp (fun I3 H locs h hp => ?_)
  exact rt_v X hp h dX7_beginAct_18
set_option maxRecDepth 100000 in
theorem C_X7_beginAct {E : EE} {l : Launch} {I : II} {Q : II → Prop} (h : wp_X7_beginAct I Q) : Met l yX7_beginAct (Cond.code yX7_beginAct cX7_beginAct 1 none :: lwT) rmX7_beginAct (va_Pc [.ref (E.2.1 296)] (PU E I)) (va_Qv Q (BU E) E.2.2.2.1) 0 0 E.2.2.2.1 :=
  ofWalk [.ref (E.2.1 296)] (by decide) tw_c_X7_beginAct (Nat.le_of_ble_eq_true rfl) (fun p e s m below meth c ls X hp hl => w_X7_beginAct_0 X _ _ _ _ h hp hl)
abbrev rmX7_serve : Room := { frames := 4, cells := 0, slots := 0, locals := 90 }
theorem vf_X7_serve : VF yX7_serve RX7 cX7_serve 3 (some .int) 1 := ⟨tw_in_X7, tw_im_X7_serve, tw_se_X7_serve, tw_c_X7_serve, by decide, by decide, by decide +kernel⟩
def wp_X7_serve_47 (Q : Int32 → II → Prop) (k70 : II → Prop) : Nat → Int32 → Int32 → II → Prop
  | 0, _, _, _ => False
  | n + 1, x1, x2, I => ((x1 ≤ x2 → (k70 I)) ∧ (¬ x1 ≤ x2 → (wp_X7_beginAct I (fun I2 => (wp_X1_passTurn 0 I2 (fun r5 I4 => (wp_X7_serve_47 Q k70 n x1 (x2 + (nI 1)) I4)))))))
set_option maxHeartbeats 4000000 in
set_option maxRecDepth 100000 in
theorem w_X7_serve_47 {E : EE} {p : Program} {l : Launch} {e : Env} {s : State} {m : MethodId} {args : Array Value} {below : List Frame} {meth : Method} {c : Code} {Q : Int32 → II → Prop} {k70 : II → Prop} (X : CX E p s m args meth c cX7_serve 3 (some .int) RX7) (K70 : ∀ (I : II) (H : Heap) (locs : List Loc) (ls : Array Slot), k70 I → PP E s H locs I → lv_has ls 3 [(0, .ref (E.2.1 296))] → W p l e rmX7_serve s m args below meth c H locs 0 0 (MQ below (va_Qi Q (BU E) E.2.2.2.1) args s 0 0 E.2.2.2.1) (F0 m 70 ls [])) : ∀ (n : Nat) (x1 : Int32) (x2 : Int32) (I : II) (H : Heap) (locs : List Loc) (ls : Array Slot), wp_X7_serve_47 Q k70 n x1 x2 I → PP E s H locs I → lv_has ls 3 [(0, .ref (E.2.1 296)), (1, .int x1), (2, .int x2)] → W p l e rmX7_serve s m args below meth c H locs 0 0 (MQ below (va_Qi Q (BU E) E.2.2.2.1) args s 0 0 E.2.2.2.1) (F0 m 47 ls []) := by
  obtain ⟨⟨hx, hb, hml, hown, hts⟩, hr, hlk, hK, hST, hN⟩ := id X
  intro n
  induction n with
  | zero =>
    intro x1 x2 I H locs ls h hp hl
    exact False.elim h
  | succ n ih =>
    intro x1 x2 I H locs ls h hp hl
    rw [wp_X7_serve_47.eq_2] at h
    refine lv_iload_n hx hb dX7_serve_47 rfl (lv_at hl 2 rfl) ?_
    refine lv_iload_n hx hb dX7_serve_48 rfl (lv_at hl 1 rfl) ?_
    refine lv_icmp_ge (tgt := 70) hx hb dX7_serve_49 (by decide) (fun c1 => ?_) (fun c1 => ?_)
    · have h := h.1 c1
      exact K70 _ _ _ _ h hp (lv_sub hl [0] rfl)
    · have h := h.2 c1
      refine lv_aload_n hx hb dX7_serve_52 rfl (lv_at hl 0 rfl) ?_
      refine kv (kV (As := []) (rest := []) X hp (C_X7_beginAct  h) tw_ml_X7_145 vf_X7_beginAct ⟨rfl, rfl, Nat.le_of_ble_eq_true rfl, Nat.le_of_ble_eq_true rfl⟩ (pr_rcv X hp (k := 296) (by decide) (ob_296 _) (q := (RX7, TX7, 9)) rfl) rfl hl.1 rfl (Nat.le_of_ble_eq_true rfl) dX7_serve_53) hp (fun I2 H locs h hp => ?_)
      refine lv_aload_n hx hb dX7_serve_56 rfl (lv_at hl 0 rfl) ?_
      refine f_X7_26 X hp dX7_serve_57 ?_
      refine ki (kV (As := []) (rest := []) X hp (C_X1_passTurn (by decide) h) tw_ml_X7_148 vf_X1_passTurn ⟨rfl, rfl, Nat.le_of_ble_eq_true rfl, Nat.le_of_ble_eq_true rfl⟩ (pr_rcvb X hp (by decide)) rfl hl.1 rfl (Nat.le_of_ble_eq_true rfl) dX7_serve_60) hp (fun r5 I4 H locs h hp => ?_)
      refine lv_pop hx hb dX7_serve_63 rfl ?_
      refine lv_iinc (v := (x2 + (nI 1))) (lv' := [(2, .int (x2 + (nI 1))), (0, .ref (E.2.1 296)), (1, .int x1)]) hx hb dX7_serve_64 hl (k := 2) rfl rfl (by decide) rfl (fun ls hl => ?_)
      refine lv_goto (tgt := 47) hx hb dX7_serve_67 (by decide) ?_
      exact ih _ _ _ _ _ _ h hp (lv_sub hl [1, 2, 0] rfl)
def wp_X7_serve (x1 : Int32) (I : II) (Q : Int32 → II → Prop) : Prop := (wp_X1_isThere 0 I (fun r2 I1 => ((¬ r2 = 0 → ((x1 < (nI 1) → (Q (-nI 1000001) I1)) ∧ (¬ x1 < (nI 1) → ((x1 ≤ (nI 24) → ((((I1 (8 * 0) 4) + x1) ≤ (nI 999) → (∃ n57, wp_X7_serve_47 Q (fun I => (Q (I (8 * 0) 7) I)) n57 x1 (nI 0) I1)) ∧ (¬ ((I1 (8 * 0) 4) + x1) ≤ (nI 999) → (Q (-nI 1000003) I1)))) ∧ (¬ x1 ≤ (nI 24) → (Q (-nI 1000001) I1)))))) ∧ (r2 = 0 → (Q (-nI 1000002) I1)))))
set_option maxHeartbeats 4000000 in
set_option maxRecDepth 100000 in
theorem w_X7_serve_0 {E : EE} {p : Program} {l : Launch} {e : Env} {s : State} {m : MethodId} {args : Array Value} {below : List Frame} {meth : Method} {c : Code} {Q : Int32 → II → Prop} (X : CX E p s m args meth c cX7_serve 3 (some .int) RX7) : ∀ (x1 : Int32) (I : II) (H : Heap) (locs : List Loc) (ls : Array Slot), wp_X7_serve x1 I Q → PP E s H locs I → lv_has ls 3 [(0, .ref (E.2.1 296)), (1, .int x1)] → W p l e rmX7_serve s m args below meth c H locs 0 0 (MQ below (va_Qi Q (BU E) E.2.2.2.1) args s 0 0 E.2.2.2.1) (F0 m 0 ls []) := by
  obtain ⟨⟨hx, hb, hml, hown, hts⟩, hr, hlk, hK, hST, hN⟩ := id X
  intro x1 I H locs ls h hp hl
  unfold wp_X7_serve at h
  refine lv_aload_n hx hb dX7_serve_0 rfl (lv_at hl 0 rfl) ?_
  refine f_X7_26 X hp dX7_serve_1 ?_
  refine ki (kV (As := []) (rest := []) X hp (C_X1_isThere (by decide) h) tw_ml_X7_139 vf_X1_isThere ⟨rfl, rfl, Nat.le_of_ble_eq_true rfl, Nat.le_of_ble_eq_true rfl⟩ (pr_rcvb X hp (by decide)) rfl hl.1 rfl (Nat.le_of_ble_eq_true rfl) dX7_serve_4) hp (fun r2 I1 H locs h hp => ?_)
  refine lv_if_ne (tgt := 13) hx hb dX7_serve_7 (by decide) (fun c3 => ?_) (fun c3 => ?_)
  · have h := h.1 c3
    refine lv_iload_n hx hb dX7_serve_13 rfl (lv_at hl 1 rfl) ?_
    refine lv_iconst (v := (nI 1)) hx hb dX7_serve_14 (by decide) ?_
    refine lv_icmp_lt (tgt := 24) hx hb dX7_serve_15 (by decide) (fun c4 => ?_) (fun c4 => ?_)
    · have h := h.1 c4
      refine lv_ldc (v := (-nI 1000001)) hx hb hown (hts _ tw_k_X7_66) dX7_serve_24 ?_
      exact rt_i X hp h dX7_serve_26
    · have h := h.2 c4
      refine lv_iload_n hx hb dX7_serve_18 rfl (lv_at hl 1 rfl) ?_
      refine lv_bipush (v := (nI 24)) hx hb dX7_serve_19 (by decide) ?_
      refine lv_icmp_le (tgt := 27) hx hb dX7_serve_21 (by decide) (fun c5 => ?_) (fun c5 => ?_)
      · have h := h.1 c5
        refine lv_aload_n hx hb dX7_serve_27 rfl (lv_at hl 0 rfl) ?_
        refine f_X7_26 X hp dX7_serve_28 ?_
        refine f_X7_142 X hp (by decide) dX7_serve_31 ?_
        refine lv_iload_n hx hb dX7_serve_34 rfl (lv_at hl 1 rfl) ?_
        refine lv_iadd hx hb dX7_serve_35 ?_
        refine lv_sipush (v := (nI 999)) hx hb dX7_serve_36 (by decide) ?_
        refine lv_icmp_le (tgt := 45) hx hb dX7_serve_39 (by decide) (fun c6 => ?_) (fun c6 => ?_)
        · have h := h.1 c6
          refine lv_iconst (v := (nI 0)) hx hb dX7_serve_45 (by decide) ?_
          refine lv_istore_n (lv' := [(2, .int (nI 0)), (0, .ref (E.2.1 296)), (1, .int x1)]) hx hb dX7_serve_46 rfl hl (by decide) rfl (fun ls hl => ?_)
          obtain ⟨n57, h⟩ := h
          refine w_X7_serve_47 X ?_ n57 _ _ _ _ _ _ h hp (lv_sub hl [1, 2, 0] rfl)
          · intro I H locs ls h hp hl
            refine lv_aload_n hx hb dX7_serve_70 rfl (lv_at hl 0 rfl) ?_
            refine f_X7_26 X hp dX7_serve_71 ?_
            refine f_X7_152 X hp (by decide) dX7_serve_74 ?_
            exact rt_i X hp h dX7_serve_77
        · have h := h.2 c6
          refine lv_ldc (v := (-nI 1000003)) hx hb hown (hts _ tw_k_X7_109) dX7_serve_42 ?_
          exact rt_i X hp h dX7_serve_44
      · have h := h.2 c5
        refine lv_ldc (v := (-nI 1000001)) hx hb hown (hts _ tw_k_X7_66) dX7_serve_24 ?_
        exact rt_i X hp h dX7_serve_26
  · have h := h.2 c3
    refine lv_ldc (v := (-nI 1000002)) hx hb hown (hts _ tw_k_X7_132) dX7_serve_10 ?_
    exact rt_i X hp h dX7_serve_12
set_option maxRecDepth 100000 in
theorem C_X7_serve {E : EE} {l : Launch} {x1 : Int32} {I : II} {Q : Int32 → II → Prop} (h : wp_X7_serve x1 I Q) : Met l yX7_serve (Cond.code yX7_serve cX7_serve 3 (some .int) :: lwT) rmX7_serve (va_Pc [.ref (E.2.1 296), .int x1] (PU E I)) (va_Qi Q (BU E) E.2.2.2.1) 0 0 E.2.2.2.1 :=
  ofWalk [.ref (E.2.1 296), .int x1] (by decide) tw_c_X7_serve (Nat.le_of_ble_eq_true rfl) (fun p e s m below meth c ls X hp hl => w_X7_serve_0 X _ _ _ _ _ h hp hl)
abbrev rmX7_isChoice : Room := { frames := 0, cells := 0, slots := 0, locals := 0 }
theorem sf_X7_isChoice : SF yX7_isChoice cX7_isChoice 1 (some .boolean) 1 := ⟨tw_in_X7, tw_st_X7_isChoice, tw_c_X7_isChoice, by decide, by decide, by decide +kernel⟩
def wp_X7_isChoice_9 (Q : Int32 → II → Prop) (I : II) : Prop := (Q (nI 1) I)
set_option maxHeartbeats 4000000 in
set_option maxRecDepth 100000 in
theorem w_X7_isChoice_9 {E : EE} {p : Program} {l : Launch} {e : Env} {s : State} {m : MethodId} {args : Array Value} {below : List Frame} {meth : Method} {c : Code} {Q : Int32 → II → Prop} (X : CX E p s m args meth c cX7_isChoice 1 (some .boolean) RX7) : ∀ (I : II) (H : Heap) (locs : List Loc) (ls : Array Slot), wp_X7_isChoice_9 Q I → PP E s H locs I → lv_has ls 1 [] → W p l e rmX7_isChoice s m args below meth c H locs 0 0 (MQ below (va_Qi Q (BU E) E.2.2.2.1) args s 0 0 E.2.2.2.1) (F0 m 9 ls []) := by
  obtain ⟨⟨hx, hb, hml, hown, hts⟩, hr, hlk, hK, hST, hN⟩ := id X
  intro I H locs ls h hp hl
  unfold wp_X7_isChoice_9 at h
  refine lv_iconst (v := (nI 1)) hx hb dX7_isChoice_9 (by decide) ?_
  refine lv_goto (tgt := 14) hx hb dX7_isChoice_10 (by decide) ?_
  exact rt_z X hp ⟨Or.inr rfl, h⟩ dX7_isChoice_14
def wp_X7_isChoice (x0 : Int32) (I : II) (Q : Int32 → II → Prop) : Prop := ((x0 = 0 → (wp_X7_isChoice_9 Q I)) ∧ (¬ x0 = 0 → ((¬ x0 = (nI 1) → (Q (nI 0) I)) ∧ (x0 = (nI 1) → (wp_X7_isChoice_9 Q I)))))
set_option maxHeartbeats 4000000 in
set_option maxRecDepth 100000 in
theorem w_X7_isChoice_0 {E : EE} {p : Program} {l : Launch} {e : Env} {s : State} {m : MethodId} {args : Array Value} {below : List Frame} {meth : Method} {c : Code} {Q : Int32 → II → Prop} (X : CX E p s m args meth c cX7_isChoice 1 (some .boolean) RX7) : ∀ (x0 : Int32) (I : II) (H : Heap) (locs : List Loc) (ls : Array Slot), wp_X7_isChoice x0 I Q → PP E s H locs I → lv_has ls 1 [(0, .int x0)] → W p l e rmX7_isChoice s m args below meth c H locs 0 0 (MQ below (va_Qi Q (BU E) E.2.2.2.1) args s 0 0 E.2.2.2.1) (F0 m 0 ls []) := by
  obtain ⟨⟨hx, hb, hml, hown, hts⟩, hr, hlk, hK, hST, hN⟩ := id X
  intro x0 I H locs ls h hp hl
  unfold wp_X7_isChoice at h
  refine lv_iload_n hx hb dX7_isChoice_0 rfl (lv_at hl 0 rfl) ?_
  refine lv_if_eq (tgt := 9) hx hb dX7_isChoice_1 (by decide) (fun c1 => ?_) (fun c1 => ?_)
  · have h := h.1 c1
    exact w_X7_isChoice_9 X  _ _ _ _ h hp (lv_sub hl [] rfl)
  · have h := h.2 c1
    refine lv_iload_n hx hb dX7_isChoice_4 rfl (lv_at hl 0 rfl) ?_
    refine lv_iconst (v := (nI 1)) hx hb dX7_isChoice_5 (by decide) ?_
    refine lv_icmp_ne (tgt := 13) hx hb dX7_isChoice_6 (by decide) (fun c2 => ?_) (fun c2 => ?_)
    · have h := h.1 c2
      refine lv_iconst (v := (nI 0)) hx hb dX7_isChoice_13 (by decide) ?_
      exact rt_z X hp ⟨Or.inl rfl, h⟩ dX7_isChoice_14
    · have h := h.2 c2
      exact w_X7_isChoice_9 X  _ _ _ _ h hp (lv_sub hl [] rfl)
set_option maxRecDepth 100000 in
theorem C_X7_isChoice {E : EE} {l : Launch} {x0 : Int32} {I : II} {Q : Int32 → II → Prop} (h : wp_X7_isChoice x0 I Q) : Met l yX7_isChoice (Cond.code yX7_isChoice cX7_isChoice 1 (some .boolean) :: lwT) rmX7_isChoice (va_Pc [.int x0] (PU E I)) (va_Qi Q (BU E) E.2.2.2.1) 0 0 E.2.2.2.1 :=
  ofWalk [.int x0] (by decide) tw_c_X7_isChoice (Nat.le_of_ble_eq_true rfl) (fun p e s m below meth c ls X hp hl => w_X7_isChoice_0 X _ _ _ _ _ h hp hl)
abbrev rmX7_counter : Room := { frames := 4, cells := 0, slots := 0, locals := 85 }
theorem vf_X7_counter : VF yX7_counter RX7 cX7_counter 3 (some .int) 2 := ⟨tw_in_X7, tw_im_X7_counter, tw_se_X7_counter, tw_c_X7_counter, by decide, by decide, by decide +kernel⟩
def wp_X7_counter_39 (Q : Int32 → II → Prop) (x1 : Int32) (v0 : Int32) (v1 : Int32) (I : II) : Prop := ((¬ v1 = v0 → (wp_X7_beginAct I (fun I2 => (∀ I4 : II, I4 = su I2 (8 * 0) 3 ((I2 (8 * 0) 3) ^^^ ((nI 1) <<< (x1 &&& 31))) → (Q (I4 (8 * 0) 3) I4))))) ∧ (v1 = v0 → (Q (-nI 1000002) I)))
set_option maxHeartbeats 4000000 in
set_option maxRecDepth 100000 in
theorem w_X7_counter_39 {E : EE} {p : Program} {l : Launch} {e : Env} {s : State} {m : MethodId} {args : Array Value} {below : List Frame} {meth : Method} {c : Code} {Q : Int32 → II → Prop} (X : CX E p s m args meth c cX7_counter 3 (some .int) RX7) : ∀ (x1 : Int32) (v0 : Int32) (v1 : Int32) (I : II) (H : Heap) (locs : List Loc) (ls : Array Slot), wp_X7_counter_39 Q x1 v0 v1 I → PP E s H locs I → lv_has ls 3 [(0, .ref (E.2.1 296)), (1, .int x1)] → W p l e rmX7_counter s m args below meth c H locs 0 0 (MQ below (va_Qi Q (BU E) E.2.2.2.1) args s 0 0 E.2.2.2.1) (F0 m 39 ls [.int v0, .int v1]) := by
  obtain ⟨⟨hx, hb, hml, hown, hts⟩, hr, hlk, hK, hST, hN⟩ := id X
  intro x1 v0 v1 I H locs ls h hp hl
  unfold wp_X7_counter_39 at h
  refine lv_icmp_ne (tgt := 45) hx hb dX7_counter_39 (by decide) (fun c1 => ?_) (fun c1 => ?_)
  · have h := h.1 c1
    refine lv_aload_n hx hb dX7_counter_45 rfl (lv_at hl 0 rfl) ?_
    refine kv (kV (As := []) (rest := []) X hp (C_X7_beginAct  h) tw_ml_X7_145 vf_X7_beginAct ⟨rfl, rfl, Nat.le_of_ble_eq_true rfl, Nat.le_of_ble_eq_true rfl⟩ (pr_rcv X hp (k := 296) (by decide) (ob_296 _) (q := (RX7, TX7, 9)) rfl) rfl hl.1 rfl (Nat.le_of_ble_eq_true rfl) dX7_counter_46) hp (fun I2 H locs h hp => ?_)
    refine lv_aload_n hx hb dX7_counter_49 rfl (lv_at hl 0 rfl) ?_
    refine f_X7_26 X hp dX7_counter_50 ?_
    refine lv_dup hx hb dX7_counter_53 rfl ?_
    refine f_X7_164 X hp (by decide) dX7_counter_54 ?_
    refine lv_iconst (v := (nI 1)) hx hb dX7_counter_57 (by decide) ?_
    refine lv_iload_n hx hb dX7_counter_58 rfl (lv_at hl 1 rfl) ?_
    refine lv_ishl hx hb dX7_counter_59 ?_
    refine lv_ixor hx hb dX7_counter_60 ?_
    refine g_X7_164 X hp (by decide) dX7_counter_61 (fun H locs hp => ?_)
    obtain ⟨I4, e5⟩ : ∃ y, y = su I2 (8 * 0) 3 ((I2 (8 * 0) 3) ^^^ ((nI 1) <<< (x1 &&& 31))) := ⟨_, rfl⟩
    have hp : PP E s H locs I4 := by rw [e5]; exact hp
    have h := h I4 e5
    refine lv_aload_n hx hb dX7_counter_64 rfl (lv_at hl 0 rfl) ?_
    refine f_X7_26 X hp dX7_counter_65 ?_
    refine f_X7_164 X hp (by decide) dX7_counter_68 ?_
    exact rt_i X hp h dX7_counter_71
  · have h := h.2 c1
    refine lv_ldc (v := (-nI 1000002)) hx hb hown (hts _ tw_k_X7_132) dX7_counter_42 ?_
    exact rt_i X hp h dX7_counter_44
def wp_X7_counter (x1 : Int32) (x2 : Int32) (I : II) (Q : Int32 → II → Prop) : Prop := (wp_X1_hasTeller 0 x1 I (fun r2 I1 => ((r2 = 0 → (Q (-nI 1000001) I1)) ∧ (¬ r2 = 0 → (wp_X7_isChoice x2 I1 (fun r5 I4 => ((¬ r5 = 0 → (wp_X1_isOpen 0 x1 I4 (fun r8 I7 => ((¬ x2 = (nI 1) → (wp_X7_counter_39 Q x1 (nI 0) r8 I7)) ∧ (x2 = (nI 1) → (wp_X7_counter_39 Q x1 (nI 1) r8 I7)))))) ∧ (r5 = 0 → (Q (-nI 1000001) I4)))))))))
set_option maxHeartbeats 4000000 in
set_option maxRecDepth 100000 in
theorem w_X7_counter_0 {E : EE} {p : Program} {l : Launch} {e : Env} {s : State} {m : MethodId} {args : Array Value} {below : List Frame} {meth : Method} {c : Code} {Q : Int32 → II → Prop} (X : CX E p s m args meth c cX7_counter 3 (some .int) RX7) : ∀ (x1 : Int32) (x2 : Int32) (I : II) (H : Heap) (locs : List Loc) (ls : Array Slot), wp_X7_counter x1 x2 I Q → PP E s H locs I → lv_has ls 3 [(0, .ref (E.2.1 296)), (1, .int x1), (2, .int x2)] → W p l e rmX7_counter s m args below meth c H locs 0 0 (MQ below (va_Qi Q (BU E) E.2.2.2.1) args s 0 0 E.2.2.2.1) (F0 m 0 ls []) := by
  obtain ⟨⟨hx, hb, hml, hown, hts⟩, hr, hlk, hK, hST, hN⟩ := id X
  intro x1 x2 I H locs ls h hp hl
  unfold wp_X7_counter at h
  refine lv_aload_n hx hb dX7_counter_0 rfl (lv_at hl 0 rfl) ?_
  refine f_X7_26 X hp dX7_counter_1 ?_
  refine lv_iload_n hx hb dX7_counter_4 rfl (lv_at hl 1 rfl) ?_
  refine ki (kV (As := [.int x1]) (rest := []) X hp (C_X1_hasTeller (by decide) h) tw_ml_X7_155 vf_X1_hasTeller ⟨rfl, rfl, Nat.le_of_ble_eq_true rfl, Nat.le_of_ble_eq_true rfl⟩ (pr_rcvb X hp (by decide)) rfl hl.1 rfl (Nat.le_of_ble_eq_true rfl) dX7_counter_5) hp (fun r2 I1 H locs h hp => ?_)
  refine lv_if_eq (tgt := 18) hx hb dX7_counter_8 (by decide) (fun c3 => ?_) (fun c3 => ?_)
  · have h := h.1 c3
    refine lv_ldc (v := (-nI 1000001)) hx hb hown (hts _ tw_k_X7_66) dX7_counter_18 ?_
    exact rt_i X hp h dX7_counter_20
  · have h := h.2 c3
    refine lv_iload_n hx hb dX7_counter_11 rfl (lv_at hl 2 rfl) ?_
    refine ki (kS (As := [.int x2]) (rest := []) X hp (C_X7_isChoice  h) tw_ml_X7_158 sf_X7_isChoice ⟨rfl, rfl, Nat.le_of_ble_eq_true rfl, Nat.le_of_ble_eq_true rfl⟩ rfl hl.1 rfl (Nat.le_of_ble_eq_true rfl) dX7_counter_12) hp (fun r5 I4 H locs h hp => ?_)
    refine lv_if_ne (tgt := 21) hx hb dX7_counter_15 (by decide) (fun c6 => ?_) (fun c6 => ?_)
    · have h := h.1 c6
      refine lv_aload_n hx hb dX7_counter_21 rfl (lv_at hl 0 rfl) ?_
      refine f_X7_26 X hp dX7_counter_22 ?_
      refine lv_iload_n hx hb dX7_counter_25 rfl (lv_at hl 1 rfl) ?_
      refine ki (kV (As := [.int x1]) (rest := []) X hp (C_X1_isOpen (by decide) h) tw_ml_X7_161 vf_X1_isOpen ⟨rfl, rfl, Nat.le_of_ble_eq_true rfl, Nat.le_of_ble_eq_true rfl⟩ (pr_rcvb X hp (by decide)) rfl hl.1 rfl (Nat.le_of_ble_eq_true rfl) dX7_counter_26) hp (fun r8 I7 H locs h hp => ?_)
      refine lv_iload_n hx hb dX7_counter_29 rfl (lv_at hl 2 rfl) ?_
      refine lv_iconst (v := (nI 1)) hx hb dX7_counter_30 (by decide) ?_
      refine lv_icmp_ne (tgt := 38) hx hb dX7_counter_31 (by decide) (fun c9 => ?_) (fun c9 => ?_)
      · have h := h.1 c9
        refine lv_iconst (v := (nI 0)) hx hb dX7_counter_38 (by decide) ?_
        exact w_X7_counter_39 X  _ _ _ _ _ _ _ h hp (lv_sub hl [0, 1] rfl)
      · have h := h.2 c9
        refine lv_iconst (v := (nI 1)) hx hb dX7_counter_34 (by decide) ?_
        refine lv_goto (tgt := 39) hx hb dX7_counter_35 (by decide) ?_
        exact w_X7_counter_39 X  _ _ _ _ _ _ _ h hp (lv_sub hl [0, 1] rfl)
    · have h := h.2 c6
      refine lv_ldc (v := (-nI 1000001)) hx hb hown (hts _ tw_k_X7_66) dX7_counter_18 ?_
      exact rt_i X hp h dX7_counter_20
set_option maxRecDepth 100000 in
theorem C_X7_counter {E : EE} {l : Launch} {x1 : Int32} {x2 : Int32} {I : II} {Q : Int32 → II → Prop} (h : wp_X7_counter x1 x2 I Q) : Met l yX7_counter (Cond.code yX7_counter cX7_counter 3 (some .int) :: lwT) rmX7_counter (va_Pc [.ref (E.2.1 296), .int x1, .int x2] (PU E I)) (va_Qi Q (BU E) E.2.2.2.1) 0 0 E.2.2.2.1 :=
  ofWalk [.ref (E.2.1 296), .int x1, .int x2] (by decide) tw_c_X7_counter (Nat.le_of_ble_eq_true rfl) (fun p e s m below meth c ls X hp hl => w_X7_counter_0 X _ _ _ _ _ _ h hp hl)
abbrev rmX7_isSum : Room := { frames := 0, cells := 0, slots := 0, locals := 0 }
theorem sf_X7_isSum : SF yX7_isSum cX7_isSum 1 (some .boolean) 1 := ⟨tw_in_X7, tw_st_X7_isSum, tw_c_X7_isSum, by decide, by decide, by decide +kernel⟩
def wp_X7_isSum (x0 : Int32) (I : II) (Q : Int32 → II → Prop) : Prop := ((x0 < (nI 1) → (Q (nI 0) I)) ∧ (¬ x0 < (nI 1) → (((nI 30) < x0 → (Q (nI 0) I)) ∧ (¬ (nI 30) < x0 → (Q (nI 1) I)))))
set_option maxHeartbeats 4000000 in
set_option maxRecDepth 100000 in
theorem w_X7_isSum_0 {E : EE} {p : Program} {l : Launch} {e : Env} {s : State} {m : MethodId} {args : Array Value} {below : List Frame} {meth : Method} {c : Code} {Q : Int32 → II → Prop} (X : CX E p s m args meth c cX7_isSum 1 (some .boolean) RX7) : ∀ (x0 : Int32) (I : II) (H : Heap) (locs : List Loc) (ls : Array Slot), wp_X7_isSum x0 I Q → PP E s H locs I → lv_has ls 1 [(0, .int x0)] → W p l e rmX7_isSum s m args below meth c H locs 0 0 (MQ below (va_Qi Q (BU E) E.2.2.2.1) args s 0 0 E.2.2.2.1) (F0 m 0 ls []) := by
  obtain ⟨⟨hx, hb, hml, hown, hts⟩, hr, hlk, hK, hST, hN⟩ := id X
  intro x0 I H locs ls h hp hl
  unfold wp_X7_isSum at h
  refine lv_iload_n hx hb dX7_isSum_0 rfl (lv_at hl 0 rfl) ?_
  refine lv_iconst (v := (nI 1)) hx hb dX7_isSum_1 (by decide) ?_
  refine lv_icmp_lt (tgt := 15) hx hb dX7_isSum_2 (by decide) (fun c1 => ?_) (fun c1 => ?_)
  · have h := h.1 c1
    refine lv_iconst (v := (nI 0)) hx hb dX7_isSum_15 (by decide) ?_
    exact rt_z X hp ⟨Or.inl rfl, h⟩ dX7_isSum_16
  · have h := h.2 c1
    refine lv_iload_n hx hb dX7_isSum_5 rfl (lv_at hl 0 rfl) ?_
    refine lv_bipush (v := (nI 30)) hx hb dX7_isSum_6 (by decide) ?_
    refine lv_icmp_gt (tgt := 15) hx hb dX7_isSum_8 (by decide) (fun c2 => ?_) (fun c2 => ?_)
    · have h := h.1 c2
      refine lv_iconst (v := (nI 0)) hx hb dX7_isSum_15 (by decide) ?_
      exact rt_z X hp ⟨Or.inl rfl, h⟩ dX7_isSum_16
    · have h := h.2 c2
      refine lv_iconst (v := (nI 1)) hx hb dX7_isSum_11 (by decide) ?_
      refine lv_goto (tgt := 16) hx hb dX7_isSum_12 (by decide) ?_
      exact rt_z X hp ⟨Or.inr rfl, h⟩ dX7_isSum_16
set_option maxRecDepth 100000 in
theorem C_X7_isSum {E : EE} {l : Launch} {x0 : Int32} {I : II} {Q : Int32 → II → Prop} (h : wp_X7_isSum x0 I Q) : Met l yX7_isSum (Cond.code yX7_isSum cX7_isSum 1 (some .boolean) :: lwT) rmX7_isSum (va_Pc [.int x0] (PU E I)) (va_Qi Q (BU E) E.2.2.2.1) 0 0 E.2.2.2.1 :=
  ofWalk [.int x0] (by decide) tw_c_X7_isSum (Nat.le_of_ble_eq_true rfl) (fun p e s m below meth c ls X hp hl => w_X7_isSum_0 X _ _ _ _ _ h hp hl)
abbrev rmX7_come : Room := { frames := 4, cells := 0, slots := 0, locals := 85 }
theorem vf_X7_come : VF yX7_come RX7 cX7_come 3 (some .int) 2 := ⟨tw_in_X7, tw_im_X7_come, tw_se_X7_come, tw_c_X7_come, by decide, by decide, by decide +kernel⟩
def wp_X7_come_63 (Q : Int32 → II → Prop) (x2 : Int32) (v0 : Int32) (I : II) : Prop := (wp_X1_join 0 v0 x2 I (fun r2 I1 => (Q r2 I1)))
set_option maxHeartbeats 4000000 in
set_option maxRecDepth 100000 in
theorem w_X7_come_63 {E : EE} {p : Program} {l : Launch} {e : Env} {s : State} {m : MethodId} {args : Array Value} {below : List Frame} {meth : Method} {c : Code} {Q : Int32 → II → Prop} (X : CX E p s m args meth c cX7_come 3 (some .int) RX7) : ∀ (x2 : Int32) (v0 : Int32) (I : II) (H : Heap) (locs : List Loc) (ls : Array Slot), wp_X7_come_63 Q x2 v0 I → PP E s H locs I → lv_has ls 3 [(2, .int x2)] → W p l e rmX7_come s m args below meth c H locs 0 0 (MQ below (va_Qi Q (BU E) E.2.2.2.1) args s 0 0 E.2.2.2.1) (F0 m 63 ls [.int v0, .ref (E.2.1 (8 * 0))]) := by
  obtain ⟨⟨hx, hb, hml, hown, hts⟩, hr, hlk, hK, hST, hN⟩ := id X
  intro x2 v0 I H locs ls h hp hl
  unfold wp_X7_come_63 at h
  refine lv_iload_n hx hb dX7_come_63 rfl (lv_at hl 0 rfl) ?_
  refine ki (kV (As := [.int v0, .int x2]) (rest := []) X hp (C_X1_join (by decide) h) tw_ml_X7_170 vf_X1_join ⟨rfl, rfl, Nat.le_of_ble_eq_true rfl, Nat.le_of_ble_eq_true rfl⟩ (pr_rcvb X hp (by decide)) rfl hl.1 rfl (Nat.le_of_ble_eq_true rfl) dX7_come_64) hp (fun r2 I1 H locs h hp => ?_)
  exact rt_i X hp h dX7_come_67
def wp_X7_come (x1 : Int32) (x2 : Int32) (I : II) (Q : Int32 → II → Prop) : Prop := (wp_X1_isThere 0 I (fun r2 I1 => ((¬ r2 = 0 → (wp_X7_isChoice x1 I1 (fun r5 I4 => ((r5 = 0 → (Q (-nI 1000001) I4)) ∧ (¬ r5 = 0 → (wp_X7_isSum x2 I4 (fun r8 I7 => ((¬ r8 = 0 → (((I7 (8 * 0) 7) < (nI 7) → (wp_X7_beginAct I7 (fun I11 => ((¬ x1 = (nI 1) → (wp_X7_come_63 Q x2 (nI 0) I11)) ∧ (x1 = (nI 1) → (wp_X7_come_63 Q x2 (nI 1) I11)))))) ∧ (¬ (I7 (8 * 0) 7) < (nI 7) → (Q (-nI 1000003) I7)))) ∧ (r8 = 0 → (Q (-nI 1000001) I7)))))))))) ∧ (r2 = 0 → (Q (-nI 1000002) I1)))))
set_option maxHeartbeats 4000000 in
set_option maxRecDepth 100000 in
theorem w_X7_come_0 {E : EE} {p : Program} {l : Launch} {e : Env} {s : State} {m : MethodId} {args : Array Value} {below : List Frame} {meth : Method} {c : Code} {Q : Int32 → II → Prop} (X : CX E p s m args meth c cX7_come 3 (some .int) RX7) : ∀ (x1 : Int32) (x2 : Int32) (I : II) (H : Heap) (locs : List Loc) (ls : Array Slot), wp_X7_come x1 x2 I Q → PP E s H locs I → lv_has ls 3 [(0, .ref (E.2.1 296)), (1, .int x1), (2, .int x2)] → W p l e rmX7_come s m args below meth c H locs 0 0 (MQ below (va_Qi Q (BU E) E.2.2.2.1) args s 0 0 E.2.2.2.1) (F0 m 0 ls []) := by
  obtain ⟨⟨hx, hb, hml, hown, hts⟩, hr, hlk, hK, hST, hN⟩ := id X
  intro x1 x2 I H locs ls h hp hl
  unfold wp_X7_come at h
  refine lv_aload_n hx hb dX7_come_0 rfl (lv_at hl 0 rfl) ?_
  refine f_X7_26 X hp dX7_come_1 ?_
  refine ki (kV (As := []) (rest := []) X hp (C_X1_isThere (by decide) h) tw_ml_X7_139 vf_X1_isThere ⟨rfl, rfl, Nat.le_of_ble_eq_true rfl, Nat.le_of_ble_eq_true rfl⟩ (pr_rcvb X hp (by decide)) rfl hl.1 rfl (Nat.le_of_ble_eq_true rfl) dX7_come_4) hp (fun r2 I1 H locs h hp => ?_)
  refine lv_if_ne (tgt := 13) hx hb dX7_come_7 (by decide) (fun c3 => ?_) (fun c3 => ?_)
  · have h := h.1 c3
    refine lv_iload_n hx hb dX7_come_13 rfl (lv_at hl 1 rfl) ?_
    refine ki (kS (As := [.int x1]) (rest := []) X hp (C_X7_isChoice  h) tw_ml_X7_158 sf_X7_isChoice ⟨rfl, rfl, Nat.le_of_ble_eq_true rfl, Nat.le_of_ble_eq_true rfl⟩ rfl hl.1 rfl (Nat.le_of_ble_eq_true rfl) dX7_come_14) hp (fun r5 I4 H locs h hp => ?_)
    refine lv_if_eq (tgt := 27) hx hb dX7_come_17 (by decide) (fun c6 => ?_) (fun c6 => ?_)
    · have h := h.1 c6
      refine lv_ldc (v := (-nI 1000001)) hx hb hown (hts _ tw_k_X7_66) dX7_come_27 ?_
      exact rt_i X hp h dX7_come_29
    · have h := h.2 c6
      refine lv_iload_n hx hb dX7_come_20 rfl (lv_at hl 2 rfl) ?_
      refine ki (kS (As := [.int x2]) (rest := []) X hp (C_X7_isSum  h) tw_ml_X7_167 sf_X7_isSum ⟨rfl, rfl, Nat.le_of_ble_eq_true rfl, Nat.le_of_ble_eq_true rfl⟩ rfl hl.1 rfl (Nat.le_of_ble_eq_true rfl) dX7_come_21) hp (fun r8 I7 H locs h hp => ?_)
      refine lv_if_ne (tgt := 30) hx hb dX7_come_24 (by decide) (fun c9 => ?_) (fun c9 => ?_)
      · have h := h.1 c9
        refine lv_aload_n hx hb dX7_come_30 rfl (lv_at hl 0 rfl) ?_
        refine f_X7_26 X hp dX7_come_31 ?_
        refine f_X7_152 X hp (by decide) dX7_come_34 ?_
        refine lv_bipush (v := (nI 7)) hx hb dX7_come_37 (by decide) ?_
        refine lv_icmp_lt (tgt := 45) hx hb dX7_come_39 (by decide) (fun c10 => ?_) (fun c10 => ?_)
        · have h := h.1 c10
          refine lv_aload_n hx hb dX7_come_45 rfl (lv_at hl 0 rfl) ?_
          refine kv (kV (As := []) (rest := []) X hp (C_X7_beginAct  h) tw_ml_X7_145 vf_X7_beginAct ⟨rfl, rfl, Nat.le_of_ble_eq_true rfl, Nat.le_of_ble_eq_true rfl⟩ (pr_rcv X hp (k := 296) (by decide) (ob_296 _) (q := (RX7, TX7, 9)) rfl) rfl hl.1 rfl (Nat.le_of_ble_eq_true rfl) dX7_come_46) hp (fun I11 H locs h hp => ?_)
          refine lv_aload_n hx hb dX7_come_49 rfl (lv_at hl 0 rfl) ?_
          refine f_X7_26 X hp dX7_come_50 ?_
          refine lv_iload_n hx hb dX7_come_53 rfl (lv_at hl 1 rfl) ?_
          refine lv_iconst (v := (nI 1)) hx hb dX7_come_54 (by decide) ?_
          refine lv_icmp_ne (tgt := 62) hx hb dX7_come_55 (by decide) (fun c13 => ?_) (fun c13 => ?_)
          · have h := h.1 c13
            refine lv_iconst (v := (nI 0)) hx hb dX7_come_62 (by decide) ?_
            exact w_X7_come_63 X  _ _ _ _ _ _ h hp (lv_sub hl [2] rfl)
          · have h := h.2 c13
            refine lv_iconst (v := (nI 1)) hx hb dX7_come_58 (by decide) ?_
            refine lv_goto (tgt := 63) hx hb dX7_come_59 (by decide) ?_
            exact w_X7_come_63 X  _ _ _ _ _ _ h hp (lv_sub hl [2] rfl)
        · have h := h.2 c10
          refine lv_ldc (v := (-nI 1000003)) hx hb hown (hts _ tw_k_X7_109) dX7_come_42 ?_
          exact rt_i X hp h dX7_come_44
      · have h := h.2 c9
        refine lv_ldc (v := (-nI 1000001)) hx hb hown (hts _ tw_k_X7_66) dX7_come_27 ?_
        exact rt_i X hp h dX7_come_29
  · have h := h.2 c3
    refine lv_ldc (v := (-nI 1000002)) hx hb hown (hts _ tw_k_X7_132) dX7_come_10 ?_
    exact rt_i X hp h dX7_come_12
set_option maxRecDepth 100000 in
theorem C_X7_come {E : EE} {l : Launch} {x1 : Int32} {x2 : Int32} {I : II} {Q : Int32 → II → Prop} (h : wp_X7_come x1 x2 I Q) : Met l yX7_come (Cond.code yX7_come cX7_come 3 (some .int) :: lwT) rmX7_come (va_Pc [.ref (E.2.1 296), .int x1, .int x2] (PU E I)) (va_Qi Q (BU E) E.2.2.2.1) 0 0 E.2.2.2.1 :=
  ofWalk [.ref (E.2.1 296), .int x1, .int x2] (by decide) tw_c_X7_come (Nat.le_of_ble_eq_true rfl) (fun p e s m below meth c ls X hp hl => w_X7_come_0 X _ _ _ _ _ _ h hp hl)
abbrev rmX7_dismiss : Room := { frames := 4, cells := 0, slots := 0, locals := 85 }
theorem vf_X7_dismiss : VF yX7_dismiss RX7 cX7_dismiss 1 (some .int) 0 := ⟨tw_in_X7, tw_im_X7_dismiss, tw_se_X7_dismiss, tw_c_X7_dismiss, by decide, by decide, by decide +kernel⟩
def wp_X7_dismiss (I : II) (Q : Int32 → II → Prop) : Prop := ((¬ (I (8 * 0) 7) = 0 → (wp_X7_beginAct I (fun I2 => (∀ I4 : II, I4 = su I2 (8 * 0) 6 ((I2 (8 * 0) 6) + (nI 1)) → (wp_X1_leave 0 (nI 0) I4 (fun r7 I6 => (Q r7 I6))))))) ∧ ((I (8 * 0) 7) = 0 → (Q (-nI 1000002) I)))
set_option maxHeartbeats 4000000 in
set_option maxRecDepth 100000 in
theorem w_X7_dismiss_0 {E : EE} {p : Program} {l : Launch} {e : Env} {s : State} {m : MethodId} {args : Array Value} {below : List Frame} {meth : Method} {c : Code} {Q : Int32 → II → Prop} (X : CX E p s m args meth c cX7_dismiss 1 (some .int) RX7) : ∀ (I : II) (H : Heap) (locs : List Loc) (ls : Array Slot), wp_X7_dismiss I Q → PP E s H locs I → lv_has ls 1 [(0, .ref (E.2.1 296))] → W p l e rmX7_dismiss s m args below meth c H locs 0 0 (MQ below (va_Qi Q (BU E) E.2.2.2.1) args s 0 0 E.2.2.2.1) (F0 m 0 ls []) := by
  obtain ⟨⟨hx, hb, hml, hown, hts⟩, hr, hlk, hK, hST, hN⟩ := id X
  intro I H locs ls h hp hl
  unfold wp_X7_dismiss at h
  refine lv_aload_n hx hb dX7_dismiss_0 rfl (lv_at hl 0 rfl) ?_
  refine f_X7_26 X hp dX7_dismiss_1 ?_
  refine f_X7_152 X hp (by decide) dX7_dismiss_4 ?_
  refine lv_if_ne (tgt := 13) hx hb dX7_dismiss_7 (by decide) (fun c1 => ?_) (fun c1 => ?_)
  · have h := h.1 c1
    refine lv_aload_n hx hb dX7_dismiss_13 rfl (lv_at hl 0 rfl) ?_
    refine kv (kV (As := []) (rest := []) X hp (C_X7_beginAct  h) tw_ml_X7_145 vf_X7_beginAct ⟨rfl, rfl, Nat.le_of_ble_eq_true rfl, Nat.le_of_ble_eq_true rfl⟩ (pr_rcv X hp (k := 296) (by decide) (ob_296 _) (q := (RX7, TX7, 9)) rfl) rfl hl.1 rfl (Nat.le_of_ble_eq_true rfl) dX7_dismiss_14) hp (fun I2 H locs h hp => ?_)
    refine lv_aload_n hx hb dX7_dismiss_17 rfl (lv_at hl 0 rfl) ?_
    refine f_X7_26 X hp dX7_dismiss_18 ?_
    refine lv_dup hx hb dX7_dismiss_21 rfl ?_
    refine f_X7_174 X hp (by decide) dX7_dismiss_22 ?_
    refine lv_iconst (v := (nI 1)) hx hb dX7_dismiss_25 (by decide) ?_
    refine lv_iadd hx hb dX7_dismiss_26 ?_
    refine g_X7_174 X hp (by decide) dX7_dismiss_27 (fun H locs hp => ?_)
    obtain ⟨I4, e5⟩ : ∃ y, y = su I2 (8 * 0) 6 ((I2 (8 * 0) 6) + (nI 1)) := ⟨_, rfl⟩
    have hp : PP E s H locs I4 := by rw [e5]; exact hp
    have h := h I4 e5
    refine lv_aload_n hx hb dX7_dismiss_30 rfl (lv_at hl 0 rfl) ?_
    refine f_X7_26 X hp dX7_dismiss_31 ?_
    refine lv_iconst (v := (nI 0)) hx hb dX7_dismiss_34 (by decide) ?_
    refine ki (kV (As := [.int (nI 0)]) (rest := []) X hp (C_X1_leave (by decide) h) tw_ml_X7_177 vf_X1_leave ⟨rfl, rfl, Nat.le_of_ble_eq_true rfl, Nat.le_of_ble_eq_true rfl⟩ (pr_rcvb X hp (by decide)) rfl hl.1 rfl (Nat.le_of_ble_eq_true rfl) dX7_dismiss_35) hp (fun r7 I6 H locs h hp => ?_)
    exact rt_i X hp h dX7_dismiss_38
  · have h := h.2 c1
    refine lv_ldc (v := (-nI 1000002)) hx hb hown (hts _ tw_k_X7_132) dX7_dismiss_10 ?_
    exact rt_i X hp h dX7_dismiss_12
set_option maxRecDepth 100000 in
theorem C_X7_dismiss {E : EE} {l : Launch} {I : II} {Q : Int32 → II → Prop} (h : wp_X7_dismiss I Q) : Met l yX7_dismiss (Cond.code yX7_dismiss cX7_dismiss 1 (some .int) :: lwT) rmX7_dismiss (va_Pc [.ref (E.2.1 296)] (PU E I)) (va_Qi Q (BU E) E.2.2.2.1) 0 0 E.2.2.2.1 :=
  ofWalk [.ref (E.2.1 296)] (by decide) tw_c_X7_dismiss (Nat.le_of_ble_eq_true rfl) (fun p e s m below meth c ls X hp hl => w_X7_dismiss_0 X _ _ _ _ h hp hl)
abbrev rmX7_swap : Room := { frames := 4, cells := 0, slots := 0, locals := 85 }
theorem vf_X7_swap : VF yX7_swap RX7 cX7_swap 1 (some .int) 0 := ⟨tw_in_X7, tw_im_X7_swap, tw_se_X7_swap, tw_c_X7_swap, by decide, by decide, by decide +kernel⟩
def wp_X7_swap (I : II) (Q : Int32 → II → Prop) : Prop := (((nI 2) ≤ (I (8 * 0) 7) → (wp_X7_beginAct I (fun I2 => (wp_X1_swapFirst 0 I2 (fun I4 => (vp_in (nI 0) 7 ∧ (Q (I4 (8 * 0 + 7) (nI 0).toNatClampNeg) I4))))))) ∧ (¬ (nI 2) ≤ (I (8 * 0) 7) → (Q (-nI 1000002) I)))
set_option maxHeartbeats 4000000 in
set_option maxRecDepth 100000 in
theorem w_X7_swap_0 {E : EE} {p : Program} {l : Launch} {e : Env} {s : State} {m : MethodId} {args : Array Value} {below : List Frame} {meth : Method} {c : Code} {Q : Int32 → II → Prop} (X : CX E p s m args meth c cX7_swap 1 (some .int) RX7) : ∀ (I : II) (H : Heap) (locs : List Loc) (ls : Array Slot), wp_X7_swap I Q → PP E s H locs I → lv_has ls 1 [(0, .ref (E.2.1 296))] → W p l e rmX7_swap s m args below meth c H locs 0 0 (MQ below (va_Qi Q (BU E) E.2.2.2.1) args s 0 0 E.2.2.2.1) (F0 m 0 ls []) := by
  obtain ⟨⟨hx, hb, hml, hown, hts⟩, hr, hlk, hK, hST, hN⟩ := id X
  intro I H locs ls h hp hl
  unfold wp_X7_swap at h
  refine lv_aload_n hx hb dX7_swap_0 rfl (lv_at hl 0 rfl) ?_
  refine f_X7_26 X hp dX7_swap_1 ?_
  refine f_X7_152 X hp (by decide) dX7_swap_4 ?_
  refine lv_iconst (v := (nI 2)) hx hb dX7_swap_7 (by decide) ?_
  refine lv_icmp_ge (tgt := 14) hx hb dX7_swap_8 (by decide) (fun c1 => ?_) (fun c1 => ?_)
  · have h := h.1 c1
    refine lv_aload_n hx hb dX7_swap_14 rfl (lv_at hl 0 rfl) ?_
    refine kv (kV (As := []) (rest := []) X hp (C_X7_beginAct  h) tw_ml_X7_145 vf_X7_beginAct ⟨rfl, rfl, Nat.le_of_ble_eq_true rfl, Nat.le_of_ble_eq_true rfl⟩ (pr_rcv X hp (k := 296) (by decide) (ob_296 _) (q := (RX7, TX7, 9)) rfl) rfl hl.1 rfl (Nat.le_of_ble_eq_true rfl) dX7_swap_15) hp (fun I2 H locs h hp => ?_)
    refine lv_aload_n hx hb dX7_swap_18 rfl (lv_at hl 0 rfl) ?_
    refine f_X7_26 X hp dX7_swap_19 ?_
    refine kv (kV (As := []) (rest := []) X hp (C_X1_swapFirst (by decide) h) tw_ml_X7_180 vf_X1_swapFirst ⟨rfl, rfl, Nat.le_of_ble_eq_true rfl, Nat.le_of_ble_eq_true rfl⟩ (pr_rcvb X hp (by decide)) rfl hl.1 rfl (Nat.le_of_ble_eq_true rfl) dX7_swap_22) hp (fun I4 H locs h hp => ?_)
    refine lv_aload_n hx hb dX7_swap_25 rfl (lv_at hl 0 rfl) ?_
    refine f_X7_26 X hp dX7_swap_26 ?_
    refine f_X7_183 X hp (by decide) dX7_swap_29 ?_
    refine lv_iconst (v := (nI 0)) hx hb dX7_swap_32 (by decide) ?_
    have hv6 := h.1
    have h := h.2
    refine al_i X hp (ar_7 (by decide)) hv6 dX7_swap_33 ?_
    exact rt_i X hp h dX7_swap_34
  · have h := h.2 c1
    refine lv_ldc (v := (-nI 1000002)) hx hb hown (hts _ tw_k_X7_132) dX7_swap_11 ?_
    exact rt_i X hp h dX7_swap_13
set_option maxRecDepth 100000 in
theorem C_X7_swap {E : EE} {l : Launch} {I : II} {Q : Int32 → II → Prop} (h : wp_X7_swap I Q) : Met l yX7_swap (Cond.code yX7_swap cX7_swap 1 (some .int) :: lwT) rmX7_swap (va_Pc [.ref (E.2.1 296)] (PU E I)) (va_Qi Q (BU E) E.2.2.2.1) 0 0 E.2.2.2.1 :=
  ofWalk [.ref (E.2.1 296)] (by decide) tw_c_X7_swap (Nat.le_of_ble_eq_true rfl) (fun p e s m below meth c ls X hp hl => w_X7_swap_0 X _ _ _ _ h hp hl)
abbrev rmX7_teller : Room := { frames := 1, cells := 0, slots := 0, locals := 21 }
theorem vf_X7_teller : VF yX7_teller RX7 cX7_teller 3 (some .int) 2 := ⟨tw_in_X7, tw_im_X7_teller, tw_se_X7_teller, tw_c_X7_teller, by decide, by decide, by decide +kernel⟩
def wp_X7_teller (x1 : Int32) (x2 : Int32) (I : II) (Q : Int32 → II → Prop) : Prop := (wp_X1_hasTeller 0 x1 I (fun r2 I1 => ((¬ r2 = 0 → ((x2 = (nI 0) → (vp_in x1 4 ∧ (Q (I1 (8 * 0 + 2) x1.toNatClampNeg) I1))) ∧ (x2 = (nI 1) → (vp_in x1 4 ∧ (Q (I1 (8 * 0 + 3) x1.toNatClampNeg) I1))) ∧ (x2 = (nI 2) → (vp_in x1 4 ∧ (Q (I1 (8 * 0 + 4) x1.toNatClampNeg) I1))) ∧ (x2 = (nI 3) → (wp_X1_isOpen 0 x1 I1 (fun r12 I11 => ((r12 = 0 → (Q (nI 0) I11)) ∧ (¬ r12 = 0 → (Q (nI 1) I11)))))) ∧ (x2 = (nI 4) → (vp_in x1 4 ∧ (Q (I1 (8 * 0 + 5) x1.toNatClampNeg) I1))) ∧ (¬ x2 = (nI 0) → ¬ x2 = (nI 1) → ¬ x2 = (nI 2) → ¬ x2 = (nI 3) → ¬ x2 = (nI 4) → (Q (-nI 1000001) I1)))) ∧ (r2 = 0 → (Q (-nI 1000001) I1)))))
set_option maxHeartbeats 4000000 in
set_option maxRecDepth 100000 in
theorem w_X7_teller_0 {E : EE} {p : Program} {l : Launch} {e : Env} {s : State} {m : MethodId} {args : Array Value} {below : List Frame} {meth : Method} {c : Code} {Q : Int32 → II → Prop} (X : CX E p s m args meth c cX7_teller 3 (some .int) RX7) : ∀ (x1 : Int32) (x2 : Int32) (I : II) (H : Heap) (locs : List Loc) (ls : Array Slot), wp_X7_teller x1 x2 I Q → PP E s H locs I → lv_has ls 3 [(0, .ref (E.2.1 296)), (1, .int x1), (2, .int x2)] → W p l e rmX7_teller s m args below meth c H locs 0 0 (MQ below (va_Qi Q (BU E) E.2.2.2.1) args s 0 0 E.2.2.2.1) (F0 m 0 ls []) := by
  obtain ⟨⟨hx, hb, hml, hown, hts⟩, hr, hlk, hK, hST, hN⟩ := id X
  intro x1 x2 I H locs ls h hp hl
  unfold wp_X7_teller at h
  refine lv_aload_n hx hb dX7_teller_0 rfl (lv_at hl 0 rfl) ?_
  refine f_X7_26 X hp dX7_teller_1 ?_
  refine lv_iload_n hx hb dX7_teller_4 rfl (lv_at hl 1 rfl) ?_
  refine ki (kV (As := [.int x1]) (rest := []) X hp (C_X1_hasTeller (by decide) h) tw_ml_X7_155 vf_X1_hasTeller ⟨rfl, rfl, Nat.le_of_ble_eq_true rfl, Nat.le_of_ble_eq_true rfl⟩ (pr_rcvb X hp (by decide)) rfl hl.1 rfl (Nat.le_of_ble_eq_true rfl) dX7_teller_5) hp (fun r2 I1 H locs h hp => ?_)
  refine lv_if_ne (tgt := 14) hx hb dX7_teller_8 (by decide) (fun c3 => ?_) (fun c3 => ?_)
  · have h := h.1 c3
    refine lv_iload_n hx hb dX7_teller_14 rfl (lv_at hl 2 rfl) ?_
    by_cases c4 : x2 = (nI 0)
    · have h := h.1 c4
      refine lv_tableIn (off := 33) (tgt := 48) hx hb dX7_teller_15 (by rw [c4]; decide) (by rw [c4]; decide) (by rw [c4]; rfl) (by decide) ?_
      refine lv_aload_n hx hb dX7_teller_48 rfl (lv_at hl 0 rfl) ?_
      refine f_X7_26 X hp dX7_teller_49 ?_
      refine f_X7_187 X hp (by decide) dX7_teller_52 ?_
      refine lv_iload_n hx hb dX7_teller_55 rfl (lv_at hl 1 rfl) ?_
      have hv5 := h.1
      have h := h.2
      refine al_i X hp (ar_2 (by decide)) hv5 dX7_teller_56 ?_
      exact rt_i X hp h dX7_teller_57
    have h := h.2
    by_cases c6 : x2 = (nI 1)
    · have h := h.1 c6
      refine lv_tableIn (off := 43) (tgt := 58) hx hb dX7_teller_15 (by rw [c6]; decide) (by rw [c6]; decide) (by rw [c6]; rfl) (by decide) ?_
      refine lv_aload_n hx hb dX7_teller_58 rfl (lv_at hl 0 rfl) ?_
      refine f_X7_26 X hp dX7_teller_59 ?_
      refine f_X7_190 X hp (by decide) dX7_teller_62 ?_
      refine lv_iload_n hx hb dX7_teller_65 rfl (lv_at hl 1 rfl) ?_
      have hv7 := h.1
      have h := h.2
      refine al_i X hp (ar_3 (by decide)) hv7 dX7_teller_66 ?_
      exact rt_i X hp h dX7_teller_67
    have h := h.2
    by_cases c8 : x2 = (nI 2)
    · have h := h.1 c8
      refine lv_tableIn (off := 53) (tgt := 68) hx hb dX7_teller_15 (by rw [c8]; decide) (by rw [c8]; decide) (by rw [c8]; rfl) (by decide) ?_
      refine lv_aload_n hx hb dX7_teller_68 rfl (lv_at hl 0 rfl) ?_
      refine f_X7_26 X hp dX7_teller_69 ?_
      refine f_X7_193 X hp (by decide) dX7_teller_72 ?_
      refine lv_iload_n hx hb dX7_teller_75 rfl (lv_at hl 1 rfl) ?_
      have hv9 := h.1
      have h := h.2
      refine al_i X hp (ar_4 (by decide)) hv9 dX7_teller_76 ?_
      exact rt_i X hp h dX7_teller_77
    have h := h.2
    by_cases c10 : x2 = (nI 3)
    · have h := h.1 c10
      refine lv_tableIn (off := 63) (tgt := 78) hx hb dX7_teller_15 (by rw [c10]; decide) (by rw [c10]; decide) (by rw [c10]; rfl) (by decide) ?_
      refine lv_aload_n hx hb dX7_teller_78 rfl (lv_at hl 0 rfl) ?_
      refine f_X7_26 X hp dX7_teller_79 ?_
      refine lv_iload_n hx hb dX7_teller_82 rfl (lv_at hl 1 rfl) ?_
      refine ki (kV (As := [.int x1]) (rest := []) X hp (C_X1_isOpen (by decide) h) tw_ml_X7_161 vf_X1_isOpen ⟨rfl, rfl, Nat.le_of_ble_eq_true rfl, Nat.le_of_ble_eq_true rfl⟩ (pr_rcvb X hp (by decide)) rfl hl.1 rfl (Nat.le_of_ble_eq_true rfl) dX7_teller_83) hp (fun r12 I11 H locs h hp => ?_)
      refine lv_if_eq (tgt := 93) hx hb dX7_teller_86 (by decide) (fun c13 => ?_) (fun c13 => ?_)
      · have h := h.1 c13
        refine lv_iconst (v := (nI 0)) hx hb dX7_teller_93 (by decide) ?_
        exact rt_i X hp h dX7_teller_94
      · have h := h.2 c13
        refine lv_iconst (v := (nI 1)) hx hb dX7_teller_89 (by decide) ?_
        refine lv_goto (tgt := 94) hx hb dX7_teller_90 (by decide) ?_
        exact rt_i X hp h dX7_teller_94
    have h := h.2
    by_cases c14 : x2 = (nI 4)
    · have h := h.1 c14
      refine lv_tableIn (off := 80) (tgt := 95) hx hb dX7_teller_15 (by rw [c14]; decide) (by rw [c14]; decide) (by rw [c14]; rfl) (by decide) ?_
      refine lv_aload_n hx hb dX7_teller_95 rfl (lv_at hl 0 rfl) ?_
      refine f_X7_26 X hp dX7_teller_96 ?_
      refine f_X7_196 X hp (by decide) dX7_teller_99 ?_
      refine lv_iload_n hx hb dX7_teller_102 rfl (lv_at hl 1 rfl) ?_
      have hv15 := h.1
      have h := h.2
      refine al_i X hp (ar_5 (by decide)) hv15 dX7_teller_103 ?_
      exact rt_i X hp h dX7_teller_104
    have h := h.2
    have h := h c4 c6 c8 c10 c14
    have e16 : x2.toInt ≠ 0 := fun q => c4 (Int32.toInt_inj.mp (q.trans (by decide)))
    have e17 : x2.toInt ≠ 1 := fun q => c6 (Int32.toInt_inj.mp (q.trans (by decide)))
    have e18 : x2.toInt ≠ 2 := fun q => c8 (Int32.toInt_inj.mp (q.trans (by decide)))
    have e19 : x2.toInt ≠ 3 := fun q => c10 (Int32.toInt_inj.mp (q.trans (by decide)))
    have e20 : x2.toInt ≠ 4 := fun q => c14 (Int32.toInt_inj.mp (q.trans (by decide)))
    refine lv_tableOut (tgt := 105) hx hb dX7_teller_15 (by omega) (by decide) ?_
    refine lv_ldc (v := (-nI 1000001)) hx hb hown (hts _ tw_k_X7_66) dX7_teller_105 ?_
    exact rt_i X hp h dX7_teller_107
  · have h := h.2 c3
    refine lv_ldc (v := (-nI 1000001)) hx hb hown (hts _ tw_k_X7_66) dX7_teller_11 ?_
    exact rt_i X hp h dX7_teller_13
set_option maxRecDepth 100000 in
theorem C_X7_teller {E : EE} {l : Launch} {x1 : Int32} {x2 : Int32} {I : II} {Q : Int32 → II → Prop} (h : wp_X7_teller x1 x2 I Q) : Met l yX7_teller (Cond.code yX7_teller cX7_teller 3 (some .int) :: lwT) rmX7_teller (va_Pc [.ref (E.2.1 296), .int x1, .int x2] (PU E I)) (va_Qi Q (BU E) E.2.2.2.1) 0 0 E.2.2.2.1 :=
  ofWalk [.ref (E.2.1 296), .int x1, .int x2] (by decide) tw_c_X7_teller (Nat.le_of_ble_eq_true rfl) (fun p e s m below meth c ls X hp hl => w_X7_teller_0 X _ _ _ _ _ _ h hp hl)
abbrev rmX7_paper : Room := { frames := 1, cells := 0, slots := 0, locals := 22 }
theorem vf_X7_paper : VF yX7_paper RX7 cX7_paper 3 (some .int) 2 := ⟨tw_in_X7, tw_im_X7_paper, tw_se_X7_paper, tw_c_X7_paper, by decide, by decide, by decide +kernel⟩
def wp_X7_paper (x1 : Int32) (x2 : Int32) (I : II) (Q : Int32 → II → Prop) : Prop := (wp_X1_knowsPaper 0 x1 I (fun r2 I1 => ((¬ r2 = 0 → ((x2 = (nI 0) → (wp_X1_sumOf 0 x1 I1 (fun r6 I5 => (Q r6 I5)))) ∧ (x2 = (nI 1) → (wp_X1_isDrawing 0 x1 I1 (fun r9 I8 => ((r9 = 0 → (Q (nI 0) I8)) ∧ (¬ r9 = 0 → (Q (nI 1) I8)))))) ∧ (x2 = (nI 2) → (wp_X1_placeOf 0 x1 I1 (fun r13 I12 => (Q r13 I12)))) ∧ (¬ x2 = (nI 0) → ¬ x2 = (nI 1) → ¬ x2 = (nI 2) → (Q (-nI 1000001) I1)))) ∧ (r2 = 0 → (Q (-nI 1000001) I1)))))
set_option maxHeartbeats 4000000 in
set_option maxRecDepth 100000 in
theorem w_X7_paper_0 {E : EE} {p : Program} {l : Launch} {e : Env} {s : State} {m : MethodId} {args : Array Value} {below : List Frame} {meth : Method} {c : Code} {Q : Int32 → II → Prop} (X : CX E p s m args meth c cX7_paper 3 (some .int) RX7) : ∀ (x1 : Int32) (x2 : Int32) (I : II) (H : Heap) (locs : List Loc) (ls : Array Slot), wp_X7_paper x1 x2 I Q → PP E s H locs I → lv_has ls 3 [(0, .ref (E.2.1 296)), (1, .int x1), (2, .int x2)] → W p l e rmX7_paper s m args below meth c H locs 0 0 (MQ below (va_Qi Q (BU E) E.2.2.2.1) args s 0 0 E.2.2.2.1) (F0 m 0 ls []) := by
  obtain ⟨⟨hx, hb, hml, hown, hts⟩, hr, hlk, hK, hST, hN⟩ := id X
  intro x1 x2 I H locs ls h hp hl
  unfold wp_X7_paper at h
  refine lv_aload_n hx hb dX7_paper_0 rfl (lv_at hl 0 rfl) ?_
  refine f_X7_26 X hp dX7_paper_1 ?_
  refine lv_iload_n hx hb dX7_paper_4 rfl (lv_at hl 1 rfl) ?_
  refine ki (kV (As := [.int x1]) (rest := []) X hp (C_X1_knowsPaper (by decide) h) tw_ml_X7_199 vf_X1_knowsPaper ⟨rfl, rfl, Nat.le_of_ble_eq_true rfl, Nat.le_of_ble_eq_true rfl⟩ (pr_rcvb X hp (by decide)) rfl hl.1 rfl (Nat.le_of_ble_eq_true rfl) dX7_paper_5) hp (fun r2 I1 H locs h hp => ?_)
  refine lv_if_ne (tgt := 14) hx hb dX7_paper_8 (by decide) (fun c3 => ?_) (fun c3 => ?_)
  · have h := h.1 c3
    refine lv_iload_n hx hb dX7_paper_14 rfl (lv_at hl 2 rfl) ?_
    by_cases c4 : x2 = (nI 0)
    · have h := h.1 c4
      refine lv_tableIn (off := 25) (tgt := 40) hx hb dX7_paper_15 (by rw [c4]; decide) (by rw [c4]; decide) (by rw [c4]; rfl) (by decide) ?_
      refine lv_aload_n hx hb dX7_paper_40 rfl (lv_at hl 0 rfl) ?_
      refine f_X7_26 X hp dX7_paper_41 ?_
      refine lv_iload_n hx hb dX7_paper_44 rfl (lv_at hl 1 rfl) ?_
      refine ki (kV (As := [.int x1]) (rest := []) X hp (C_X1_sumOf (by decide) h) tw_ml_X7_202 vf_X1_sumOf ⟨rfl, rfl, Nat.le_of_ble_eq_true rfl, Nat.le_of_ble_eq_true rfl⟩ (pr_rcvb X hp (by decide)) rfl hl.1 rfl (Nat.le_of_ble_eq_true rfl) dX7_paper_45) hp (fun r6 I5 H locs h hp => ?_)
      exact rt_i X hp h dX7_paper_48
    have h := h.2
    by_cases c7 : x2 = (nI 1)
    · have h := h.1 c7
      refine lv_tableIn (off := 34) (tgt := 49) hx hb dX7_paper_15 (by rw [c7]; decide) (by rw [c7]; decide) (by rw [c7]; rfl) (by decide) ?_
      refine lv_aload_n hx hb dX7_paper_49 rfl (lv_at hl 0 rfl) ?_
      refine f_X7_26 X hp dX7_paper_50 ?_
      refine lv_iload_n hx hb dX7_paper_53 rfl (lv_at hl 1 rfl) ?_
      refine ki (kV (As := [.int x1]) (rest := []) X hp (C_X1_isDrawing (by decide) h) tw_ml_X7_205 vf_X1_isDrawing ⟨rfl, rfl, Nat.le_of_ble_eq_true rfl, Nat.le_of_ble_eq_true rfl⟩ (pr_rcvb X hp (by decide)) rfl hl.1 rfl (Nat.le_of_ble_eq_true rfl) dX7_paper_54) hp (fun r9 I8 H locs h hp => ?_)
      refine lv_if_eq (tgt := 64) hx hb dX7_paper_57 (by decide) (fun c10 => ?_) (fun c10 => ?_)
      · have h := h.1 c10
        refine lv_iconst (v := (nI 0)) hx hb dX7_paper_64 (by decide) ?_
        exact rt_i X hp h dX7_paper_65
      · have h := h.2 c10
        refine lv_iconst (v := (nI 1)) hx hb dX7_paper_60 (by decide) ?_
        refine lv_goto (tgt := 65) hx hb dX7_paper_61 (by decide) ?_
        exact rt_i X hp h dX7_paper_65
    have h := h.2
    by_cases c11 : x2 = (nI 2)
    · have h := h.1 c11
      refine lv_tableIn (off := 51) (tgt := 66) hx hb dX7_paper_15 (by rw [c11]; decide) (by rw [c11]; decide) (by rw [c11]; rfl) (by decide) ?_
      refine lv_aload_n hx hb dX7_paper_66 rfl (lv_at hl 0 rfl) ?_
      refine f_X7_26 X hp dX7_paper_67 ?_
      refine lv_iload_n hx hb dX7_paper_70 rfl (lv_at hl 1 rfl) ?_
      refine ki (kV (As := [.int x1]) (rest := []) X hp (C_X1_placeOf (by decide) h) tw_ml_X7_208 vf_X1_placeOf ⟨rfl, rfl, Nat.le_of_ble_eq_true rfl, Nat.le_of_ble_eq_true rfl⟩ (pr_rcvb X hp (by decide)) rfl hl.1 rfl (Nat.le_of_ble_eq_true rfl) dX7_paper_71) hp (fun r13 I12 H locs h hp => ?_)
      exact rt_i X hp h dX7_paper_74
    have h := h.2
    have h := h c4 c7 c11
    have e14 : x2.toInt ≠ 0 := fun q => c4 (Int32.toInt_inj.mp (q.trans (by decide)))
    have e15 : x2.toInt ≠ 1 := fun q => c7 (Int32.toInt_inj.mp (q.trans (by decide)))
    have e16 : x2.toInt ≠ 2 := fun q => c11 (Int32.toInt_inj.mp (q.trans (by decide)))
    refine lv_tableOut (tgt := 75) hx hb dX7_paper_15 (by omega) (by decide) ?_
    refine lv_ldc (v := (-nI 1000001)) hx hb hown (hts _ tw_k_X7_66) dX7_paper_75 ?_
    exact rt_i X hp h dX7_paper_77
  · have h := h.2 c3
    refine lv_ldc (v := (-nI 1000001)) hx hb hown (hts _ tw_k_X7_66) dX7_paper_11 ?_
    exact rt_i X hp h dX7_paper_13
set_option maxRecDepth 100000 in
theorem C_X7_paper {E : EE} {l : Launch} {x1 : Int32} {x2 : Int32} {I : II} {Q : Int32 → II → Prop} (h : wp_X7_paper x1 x2 I Q) : Met l yX7_paper (Cond.code yX7_paper cX7_paper 3 (some .int) :: lwT) rmX7_paper (va_Pc [.ref (E.2.1 296), .int x1, .int x2] (PU E I)) (va_Qi Q (BU E) E.2.2.2.1) 0 0 E.2.2.2.1 :=
  ofWalk [.ref (E.2.1 296), .int x1, .int x2] (by decide) tw_c_X7_paper (Nat.le_of_ble_eq_true rfl) (fun p e s m below meth c ls X hp hl => w_X7_paper_0 X _ _ _ _ _ _ h hp hl)
abbrev rmX7_cost : Room := { frames := 1, cells := 0, slots := 0, locals := 23 }
theorem vf_X7_cost : VF yX7_cost RX7 cX7_cost 3 (some .int) 2 := ⟨tw_in_X7, tw_im_X7_cost, tw_se_X7_cost, tw_c_X7_cost, by decide, by decide, by decide +kernel⟩
def wp_X7_cost (x1 : Int32) (x2 : Int32) (I : II) (Q : Int32 → II → Prop) : Prop := (wp_X1_hasTeller 0 x1 I (fun r2 I1 => ((r2 = 0 → (Q (-nI 1000001) I1)) ∧ (¬ r2 = 0 → (wp_X7_isSum x2 I1 (fun r5 I4 => ((r5 = 0 → (Q (-nI 1000001) I4)) ∧ (¬ r5 = 0 → (wp_X1_costTo 0 x1 x2 I4 (fun r8 I7 => (Q r8 I7)))))))))))
set_option maxHeartbeats 4000000 in
set_option maxRecDepth 100000 in
theorem w_X7_cost_0 {E : EE} {p : Program} {l : Launch} {e : Env} {s : State} {m : MethodId} {args : Array Value} {below : List Frame} {meth : Method} {c : Code} {Q : Int32 → II → Prop} (X : CX E p s m args meth c cX7_cost 3 (some .int) RX7) : ∀ (x1 : Int32) (x2 : Int32) (I : II) (H : Heap) (locs : List Loc) (ls : Array Slot), wp_X7_cost x1 x2 I Q → PP E s H locs I → lv_has ls 3 [(0, .ref (E.2.1 296)), (1, .int x1), (2, .int x2)] → W p l e rmX7_cost s m args below meth c H locs 0 0 (MQ below (va_Qi Q (BU E) E.2.2.2.1) args s 0 0 E.2.2.2.1) (F0 m 0 ls []) := by
  obtain ⟨⟨hx, hb, hml, hown, hts⟩, hr, hlk, hK, hST, hN⟩ := id X
  intro x1 x2 I H locs ls h hp hl
  unfold wp_X7_cost at h
  refine lv_aload_n hx hb dX7_cost_0 rfl (lv_at hl 0 rfl) ?_
  refine f_X7_26 X hp dX7_cost_1 ?_
  refine lv_iload_n hx hb dX7_cost_4 rfl (lv_at hl 1 rfl) ?_
  refine ki (kV (As := [.int x1]) (rest := []) X hp (C_X1_hasTeller (by decide) h) tw_ml_X7_155 vf_X1_hasTeller ⟨rfl, rfl, Nat.le_of_ble_eq_true rfl, Nat.le_of_ble_eq_true rfl⟩ (pr_rcvb X hp (by decide)) rfl hl.1 rfl (Nat.le_of_ble_eq_true rfl) dX7_cost_5) hp (fun r2 I1 H locs h hp => ?_)
  refine lv_if_eq (tgt := 30) hx hb dX7_cost_8 (by decide) (fun c3 => ?_) (fun c3 => ?_)
  · have h := h.1 c3
    refine lv_ldc (v := (-nI 1000001)) hx hb hown (hts _ tw_k_X7_66) dX7_cost_30 ?_
    exact rt_i X hp h dX7_cost_32
  · have h := h.2 c3
    refine lv_iload_n hx hb dX7_cost_11 rfl (lv_at hl 2 rfl) ?_
    refine ki (kS (As := [.int x2]) (rest := []) X hp (C_X7_isSum  h) tw_ml_X7_167 sf_X7_isSum ⟨rfl, rfl, Nat.le_of_ble_eq_true rfl, Nat.le_of_ble_eq_true rfl⟩ rfl hl.1 rfl (Nat.le_of_ble_eq_true rfl) dX7_cost_12) hp (fun r5 I4 H locs h hp => ?_)
    refine lv_if_eq (tgt := 30) hx hb dX7_cost_15 (by decide) (fun c6 => ?_) (fun c6 => ?_)
    · have h := h.1 c6
      refine lv_ldc (v := (-nI 1000001)) hx hb hown (hts _ tw_k_X7_66) dX7_cost_30 ?_
      exact rt_i X hp h dX7_cost_32
    · have h := h.2 c6
      refine lv_aload_n hx hb dX7_cost_18 rfl (lv_at hl 0 rfl) ?_
      refine f_X7_26 X hp dX7_cost_19 ?_
      refine lv_iload_n hx hb dX7_cost_22 rfl (lv_at hl 1 rfl) ?_
      refine lv_iload_n hx hb dX7_cost_23 rfl (lv_at hl 2 rfl) ?_
      refine ki (kV (As := [.int x1, .int x2]) (rest := []) X hp (C_X1_costTo (by decide) h) tw_ml_X7_211 vf_X1_costTo ⟨rfl, rfl, Nat.le_of_ble_eq_true rfl, Nat.le_of_ble_eq_true rfl⟩ (pr_rcvb X hp (by decide)) rfl hl.1 rfl (Nat.le_of_ble_eq_true rfl) dX7_cost_24) hp (fun r8 I7 H locs h hp => ?_)
      refine lv_goto (tgt := 32) hx hb dX7_cost_27 (by decide) ?_
      exact rt_i X hp h dX7_cost_32
set_option maxRecDepth 100000 in
theorem C_X7_cost {E : EE} {l : Launch} {x1 : Int32} {x2 : Int32} {I : II} {Q : Int32 → II → Prop} (h : wp_X7_cost x1 x2 I Q) : Met l yX7_cost (Cond.code yX7_cost cX7_cost 3 (some .int) :: lwT) rmX7_cost (va_Pc [.ref (E.2.1 296), .int x1, .int x2] (PU E I)) (va_Qi Q (BU E) E.2.2.2.1) 0 0 E.2.2.2.1 :=
  ofWalk [.ref (E.2.1 296), .int x1, .int x2] (by decide) tw_c_X7_cost (Nat.le_of_ble_eq_true rfl) (fun p e s m below meth c ls X hp hl => w_X7_cost_0 X _ _ _ _ _ _ h hp hl)
abbrev rmX7_queue : Room := { frames := 1, cells := 0, slots := 0, locals := 21 }
theorem vf_X7_queue : VF yX7_queue RX7 cX7_queue 2 (some .int) 1 := ⟨tw_in_X7, tw_im_X7_queue, tw_se_X7_queue, tw_c_X7_queue, by decide, by decide, by decide +kernel⟩
def wp_X7_queue (x1 : Int32) (I : II) (Q : Int32 → II → Prop) : Prop := (wp_X1_isThere 0 I (fun r2 I1 => ((¬ r2 = 0 → ((0 ≤ x1 → (wp_X1_paperAt 0 x1 I1 (fun r6 I5 => (Q r6 I5)))) ∧ (¬ 0 ≤ x1 → (Q (-nI 1000001) I1)))) ∧ (r2 = 0 → (Q (-nI 1000002) I1)))))
set_option maxHeartbeats 4000000 in
set_option maxRecDepth 100000 in
theorem w_X7_queue_0 {E : EE} {p : Program} {l : Launch} {e : Env} {s : State} {m : MethodId} {args : Array Value} {below : List Frame} {meth : Method} {c : Code} {Q : Int32 → II → Prop} (X : CX E p s m args meth c cX7_queue 2 (some .int) RX7) : ∀ (x1 : Int32) (I : II) (H : Heap) (locs : List Loc) (ls : Array Slot), wp_X7_queue x1 I Q → PP E s H locs I → lv_has ls 2 [(0, .ref (E.2.1 296)), (1, .int x1)] → W p l e rmX7_queue s m args below meth c H locs 0 0 (MQ below (va_Qi Q (BU E) E.2.2.2.1) args s 0 0 E.2.2.2.1) (F0 m 0 ls []) := by
  obtain ⟨⟨hx, hb, hml, hown, hts⟩, hr, hlk, hK, hST, hN⟩ := id X
  intro x1 I H locs ls h hp hl
  unfold wp_X7_queue at h
  refine lv_aload_n hx hb dX7_queue_0 rfl (lv_at hl 0 rfl) ?_
  refine f_X7_26 X hp dX7_queue_1 ?_
  refine ki (kV (As := []) (rest := []) X hp (C_X1_isThere (by decide) h) tw_ml_X7_139 vf_X1_isThere ⟨rfl, rfl, Nat.le_of_ble_eq_true rfl, Nat.le_of_ble_eq_true rfl⟩ (pr_rcvb X hp (by decide)) rfl hl.1 rfl (Nat.le_of_ble_eq_true rfl) dX7_queue_4) hp (fun r2 I1 H locs h hp => ?_)
  refine lv_if_ne (tgt := 13) hx hb dX7_queue_7 (by decide) (fun c3 => ?_) (fun c3 => ?_)
  · have h := h.1 c3
    refine lv_iload_n hx hb dX7_queue_13 rfl (lv_at hl 1 rfl) ?_
    refine lv_if_ge (tgt := 22) hx hb dX7_queue_14 (by decide) (fun c4 => ?_) (fun c4 => ?_)
    · have h := h.1 c4
      refine lv_aload_n hx hb dX7_queue_22 rfl (lv_at hl 0 rfl) ?_
      refine f_X7_26 X hp dX7_queue_23 ?_
      refine lv_iload_n hx hb dX7_queue_26 rfl (lv_at hl 1 rfl) ?_
      refine ki (kV (As := [.int x1]) (rest := []) X hp (C_X1_paperAt (by decide) h) tw_ml_X7_215 vf_X1_paperAt ⟨rfl, rfl, Nat.le_of_ble_eq_true rfl, Nat.le_of_ble_eq_true rfl⟩ (pr_rcvb X hp (by decide)) rfl hl.1 rfl (Nat.le_of_ble_eq_true rfl) dX7_queue_27) hp (fun r6 I5 H locs h hp => ?_)
      exact rt_i X hp h dX7_queue_30
    · have h := h.2 c4
      refine lv_ldc (v := (-nI 1000001)) hx hb hown (hts _ tw_k_X7_66) dX7_queue_17 ?_
      refine lv_goto (tgt := 30) hx hb dX7_queue_19 (by decide) ?_
      exact rt_i X hp h dX7_queue_30
  · have h := h.2 c3
    refine lv_ldc (v := (-nI 1000002)) hx hb hown (hts _ tw_k_X7_132) dX7_queue_10 ?_
    exact rt_i X hp h dX7_queue_12
set_option maxRecDepth 100000 in
theorem C_X7_queue {E : EE} {l : Launch} {x1 : Int32} {I : II} {Q : Int32 → II → Prop} (h : wp_X7_queue x1 I Q) : Met l yX7_queue (Cond.code yX7_queue cX7_queue 2 (some .int) :: lwT) rmX7_queue (va_Pc [.ref (E.2.1 296), .int x1] (PU E I)) (va_Qi Q (BU E) E.2.2.2.1) 0 0 E.2.2.2.1 :=
  ofWalk [.ref (E.2.1 296), .int x1] (by decide) tw_c_X7_queue (Nat.le_of_ble_eq_true rfl) (fun p e s m below meth c ls X hp hl => w_X7_queue_0 X _ _ _ _ _ h hp hl)
abbrev rmX7_isForetold : Room := { frames := 0, cells := 0, slots := 0, locals := 0 }
theorem sf_X7_isForetold : SF yX7_isForetold cX7_isForetold 1 (some .boolean) 1 := ⟨tw_in_X7, tw_st_X7_isForetold, tw_c_X7_isForetold, by decide, by decide, by decide +kernel⟩
def wp_X7_isForetold (x0 : Int32) (I : II) (Q : Int32 → II → Prop) : Prop := ((x0 < 0 → (Q (nI 0) I)) ∧ (¬ x0 < 0 → (((nI 60) < x0 → (Q (nI 0) I)) ∧ (¬ (nI 60) < x0 → (Q (nI 1) I)))))
set_option maxHeartbeats 4000000 in
set_option maxRecDepth 100000 in
theorem w_X7_isForetold_0 {E : EE} {p : Program} {l : Launch} {e : Env} {s : State} {m : MethodId} {args : Array Value} {below : List Frame} {meth : Method} {c : Code} {Q : Int32 → II → Prop} (X : CX E p s m args meth c cX7_isForetold 1 (some .boolean) RX7) : ∀ (x0 : Int32) (I : II) (H : Heap) (locs : List Loc) (ls : Array Slot), wp_X7_isForetold x0 I Q → PP E s H locs I → lv_has ls 1 [(0, .int x0)] → W p l e rmX7_isForetold s m args below meth c H locs 0 0 (MQ below (va_Qi Q (BU E) E.2.2.2.1) args s 0 0 E.2.2.2.1) (F0 m 0 ls []) := by
  obtain ⟨⟨hx, hb, hml, hown, hts⟩, hr, hlk, hK, hST, hN⟩ := id X
  intro x0 I H locs ls h hp hl
  unfold wp_X7_isForetold at h
  refine lv_iload_n hx hb dX7_isForetold_0 rfl (lv_at hl 0 rfl) ?_
  refine lv_if_lt (tgt := 14) hx hb dX7_isForetold_1 (by decide) (fun c1 => ?_) (fun c1 => ?_)
  · have h := h.1 c1
    refine lv_iconst (v := (nI 0)) hx hb dX7_isForetold_14 (by decide) ?_
    exact rt_z X hp ⟨Or.inl rfl, h⟩ dX7_isForetold_15
  · have h := h.2 c1
    refine lv_iload_n hx hb dX7_isForetold_4 rfl (lv_at hl 0 rfl) ?_
    refine lv_bipush (v := (nI 60)) hx hb dX7_isForetold_5 (by decide) ?_
    refine lv_icmp_gt (tgt := 14) hx hb dX7_isForetold_7 (by decide) (fun c2 => ?_) (fun c2 => ?_)
    · have h := h.1 c2
      refine lv_iconst (v := (nI 0)) hx hb dX7_isForetold_14 (by decide) ?_
      exact rt_z X hp ⟨Or.inl rfl, h⟩ dX7_isForetold_15
    · have h := h.2 c2
      refine lv_iconst (v := (nI 1)) hx hb dX7_isForetold_10 (by decide) ?_
      refine lv_goto (tgt := 15) hx hb dX7_isForetold_11 (by decide) ?_
      exact rt_z X hp ⟨Or.inr rfl, h⟩ dX7_isForetold_15
set_option maxRecDepth 100000 in
theorem C_X7_isForetold {E : EE} {l : Launch} {x0 : Int32} {I : II} {Q : Int32 → II → Prop} (h : wp_X7_isForetold x0 I Q) : Met l yX7_isForetold (Cond.code yX7_isForetold cX7_isForetold 1 (some .boolean) :: lwT) rmX7_isForetold (va_Pc [.int x0] (PU E I)) (va_Qi Q (BU E) E.2.2.2.1) 0 0 E.2.2.2.1 :=
  ofWalk [.int x0] (by decide) tw_c_X7_isForetold (Nat.le_of_ble_eq_true rfl) (fun p e s m below meth c ls X hp hl => w_X7_isForetold_0 X _ _ _ _ _ h hp hl)
abbrev rmX7_ahead : Room := { frames := 5, cells := 0, slots := 0, locals := 113 }
theorem vf_X7_ahead : VF yX7_ahead RX7 cX7_ahead 3 (some .int) 2 := ⟨tw_in_X7, tw_im_X7_ahead, tw_se_X7_ahead, tw_c_X7_ahead, by decide, by decide, by decide +kernel⟩
def wp_X7_ahead (x1 : Int32) (x2 : Int32) (I : II) (Q : Int32 → II → Prop) : Prop := (wp_X1_hasTeller 0 x1 I (fun r2 I1 => ((r2 = 0 → (Q (-nI 1000001) I1)) ∧ (¬ r2 = 0 → (wp_X7_isForetold x2 I1 (fun r5 I4 => ((¬ r5 = 0 → (wp_X2_after 0 x2 I4 (fun I7 => (vp_in x1 4 ∧ (Q (I7 (8 * 2 + 4) x1.toNatClampNeg) I7))))) ∧ (r5 = 0 → (Q (-nI 1000001) I4)))))))))
set_option maxHeartbeats 4000000 in
set_option maxRecDepth 100000 in
theorem w_X7_ahead_0 {E : EE} {p : Program} {l : Launch} {e : Env} {s : State} {m : MethodId} {args : Array Value} {below : List Frame} {meth : Method} {c : Code} {Q : Int32 → II → Prop} (X : CX E p s m args meth c cX7_ahead 3 (some .int) RX7) : ∀ (x1 : Int32) (x2 : Int32) (I : II) (H : Heap) (locs : List Loc) (ls : Array Slot), wp_X7_ahead x1 x2 I Q → PP E s H locs I → lv_has ls 3 [(0, .ref (E.2.1 296)), (1, .int x1), (2, .int x2)] → W p l e rmX7_ahead s m args below meth c H locs 0 0 (MQ below (va_Qi Q (BU E) E.2.2.2.1) args s 0 0 E.2.2.2.1) (F0 m 0 ls []) := by
  obtain ⟨⟨hx, hb, hml, hown, hts⟩, hr, hlk, hK, hST, hN⟩ := id X
  intro x1 x2 I H locs ls h hp hl
  unfold wp_X7_ahead at h
  refine lv_aload_n hx hb dX7_ahead_0 rfl (lv_at hl 0 rfl) ?_
  refine f_X7_26 X hp dX7_ahead_1 ?_
  refine lv_iload_n hx hb dX7_ahead_4 rfl (lv_at hl 1 rfl) ?_
  refine ki (kV (As := [.int x1]) (rest := []) X hp (C_X1_hasTeller (by decide) h) tw_ml_X7_155 vf_X1_hasTeller ⟨rfl, rfl, Nat.le_of_ble_eq_true rfl, Nat.le_of_ble_eq_true rfl⟩ (pr_rcvb X hp (by decide)) rfl hl.1 rfl (Nat.le_of_ble_eq_true rfl) dX7_ahead_5) hp (fun r2 I1 H locs h hp => ?_)
  refine lv_if_eq (tgt := 18) hx hb dX7_ahead_8 (by decide) (fun c3 => ?_) (fun c3 => ?_)
  · have h := h.1 c3
    refine lv_ldc (v := (-nI 1000001)) hx hb hown (hts _ tw_k_X7_66) dX7_ahead_18 ?_
    exact rt_i X hp h dX7_ahead_20
  · have h := h.2 c3
    refine lv_iload_n hx hb dX7_ahead_11 rfl (lv_at hl 2 rfl) ?_
    refine ki (kS (As := [.int x2]) (rest := []) X hp (C_X7_isForetold  h) tw_ml_X7_218 sf_X7_isForetold ⟨rfl, rfl, Nat.le_of_ble_eq_true rfl, Nat.le_of_ble_eq_true rfl⟩ rfl hl.1 rfl (Nat.le_of_ble_eq_true rfl) dX7_ahead_12) hp (fun r5 I4 H locs h hp => ?_)
    refine lv_if_ne (tgt := 21) hx hb dX7_ahead_15 (by decide) (fun c6 => ?_) (fun c6 => ?_)
    · have h := h.1 c6
      refine lv_aload_n hx hb dX7_ahead_21 rfl (lv_at hl 0 rfl) ?_
      refine f_X7_44 X hp dX7_ahead_22 ?_
      refine lv_aload_n hx hb dX7_ahead_25 rfl (lv_at hl 0 rfl) ?_
      refine f_X7_26 X hp dX7_ahead_26 ?_
      refine lv_iload_n hx hb dX7_ahead_29 rfl (lv_at hl 2 rfl) ?_
      refine kr (kV (As := [.ref (E.2.1 (8 * 0)), .int x2]) (rest := []) X hp (C_X2_after (by decide) h) tw_ml_X7_221 vf_X2_after ⟨rfl, rfl, Nat.le_of_ble_eq_true rfl, Nat.le_of_ble_eq_true rfl⟩ (pr_rcv X hp (k := 306) (by decide) (ob_306 _) (q := (RX2, TX2, 4)) rfl) rfl hl.1 rfl (Nat.le_of_ble_eq_true rfl) dX7_ahead_30) hp (fun I7 H locs h hp => ?_)
      refine f_X7_193 X hp (by decide) dX7_ahead_33 ?_
      refine lv_iload_n hx hb dX7_ahead_36 rfl (lv_at hl 1 rfl) ?_
      have hv9 := h.1
      have h := h.2
      refine al_i X hp (ar_4 (by decide)) hv9 dX7_ahead_37 ?_
      exact rt_i X hp h dX7_ahead_38
    · have h := h.2 c6
      refine lv_ldc (v := (-nI 1000001)) hx hb hown (hts _ tw_k_X7_66) dX7_ahead_18 ?_
      exact rt_i X hp h dX7_ahead_20
set_option maxRecDepth 100000 in
theorem C_X7_ahead {E : EE} {l : Launch} {x1 : Int32} {x2 : Int32} {I : II} {Q : Int32 → II → Prop} (h : wp_X7_ahead x1 x2 I Q) : Met l yX7_ahead (Cond.code yX7_ahead cX7_ahead 3 (some .int) :: lwT) rmX7_ahead (va_Pc [.ref (E.2.1 296), .int x1, .int x2] (PU E I)) (va_Qi Q (BU E) E.2.2.2.1) 0 0 E.2.2.2.1 :=
  ofWalk [.ref (E.2.1 296), .int x1, .int x2] (by decide) tw_c_X7_ahead (Nat.le_of_ble_eq_true rfl) (fun p e s m below meth c ls X hp hl => w_X7_ahead_0 X _ _ _ _ _ _ h hp hl)
abbrev rmX7_waiting : Room := { frames := 5, cells := 0, slots := 0, locals := 113 }
theorem vf_X7_waiting : VF yX7_waiting RX7 cX7_waiting 2 (some .int) 1 := ⟨tw_in_X7, tw_im_X7_waiting, tw_se_X7_waiting, tw_c_X7_waiting, by decide, by decide, by decide +kernel⟩
def wp_X7_waiting (x1 : Int32) (I : II) (Q : Int32 → II → Prop) : Prop := (wp_X1_isThere 0 I (fun r2 I1 => ((¬ r2 = 0 → (wp_X7_isForetold x1 I1 (fun r5 I4 => ((r5 = 0 → (Q (-nI 1000001) I4)) ∧ (¬ r5 = 0 → (wp_X2_after 0 x1 I4 (fun I7 => (wp_X1_queuedBits 2 I7 (fun r10 I9 => (Q r10 I9)))))))))) ∧ (r2 = 0 → (Q (-nI 1000002) I1)))))
set_option maxHeartbeats 4000000 in
set_option maxRecDepth 100000 in
theorem w_X7_waiting_0 {E : EE} {p : Program} {l : Launch} {e : Env} {s : State} {m : MethodId} {args : Array Value} {below : List Frame} {meth : Method} {c : Code} {Q : Int32 → II → Prop} (X : CX E p s m args meth c cX7_waiting 2 (some .int) RX7) : ∀ (x1 : Int32) (I : II) (H : Heap) (locs : List Loc) (ls : Array Slot), wp_X7_waiting x1 I Q → PP E s H locs I → lv_has ls 2 [(0, .ref (E.2.1 296)), (1, .int x1)] → W p l e rmX7_waiting s m args below meth c H locs 0 0 (MQ below (va_Qi Q (BU E) E.2.2.2.1) args s 0 0 E.2.2.2.1) (F0 m 0 ls []) := by
  obtain ⟨⟨hx, hb, hml, hown, hts⟩, hr, hlk, hK, hST, hN⟩ := id X
  intro x1 I H locs ls h hp hl
  unfold wp_X7_waiting at h
  refine lv_aload_n hx hb dX7_waiting_0 rfl (lv_at hl 0 rfl) ?_
  refine f_X7_26 X hp dX7_waiting_1 ?_
  refine ki (kV (As := []) (rest := []) X hp (C_X1_isThere (by decide) h) tw_ml_X7_139 vf_X1_isThere ⟨rfl, rfl, Nat.le_of_ble_eq_true rfl, Nat.le_of_ble_eq_true rfl⟩ (pr_rcvb X hp (by decide)) rfl hl.1 rfl (Nat.le_of_ble_eq_true rfl) dX7_waiting_4) hp (fun r2 I1 H locs h hp => ?_)
  refine lv_if_ne (tgt := 13) hx hb dX7_waiting_7 (by decide) (fun c3 => ?_) (fun c3 => ?_)
  · have h := h.1 c3
    refine lv_iload_n hx hb dX7_waiting_13 rfl (lv_at hl 1 rfl) ?_
    refine ki (kS (As := [.int x1]) (rest := []) X hp (C_X7_isForetold  h) tw_ml_X7_218 sf_X7_isForetold ⟨rfl, rfl, Nat.le_of_ble_eq_true rfl, Nat.le_of_ble_eq_true rfl⟩ rfl hl.1 rfl (Nat.le_of_ble_eq_true rfl) dX7_waiting_14) hp (fun r5 I4 H locs h hp => ?_)
    refine lv_if_eq (tgt := 38) hx hb dX7_waiting_17 (by decide) (fun c6 => ?_) (fun c6 => ?_)
    · have h := h.1 c6
      refine lv_ldc (v := (-nI 1000001)) hx hb hown (hts _ tw_k_X7_66) dX7_waiting_38 ?_
      exact rt_i X hp h dX7_waiting_40
    · have h := h.2 c6
      refine lv_aload_n hx hb dX7_waiting_20 rfl (lv_at hl 0 rfl) ?_
      refine f_X7_44 X hp dX7_waiting_21 ?_
      refine lv_aload_n hx hb dX7_waiting_24 rfl (lv_at hl 0 rfl) ?_
      refine f_X7_26 X hp dX7_waiting_25 ?_
      refine lv_iload_n hx hb dX7_waiting_28 rfl (lv_at hl 1 rfl) ?_
      refine kr (kV (As := [.ref (E.2.1 (8 * 0)), .int x1]) (rest := []) X hp (C_X2_after (by decide) h) tw_ml_X7_221 vf_X2_after ⟨rfl, rfl, Nat.le_of_ble_eq_true rfl, Nat.le_of_ble_eq_true rfl⟩ (pr_rcv X hp (k := 306) (by decide) (ob_306 _) (q := (RX2, TX2, 4)) rfl) rfl hl.1 rfl (Nat.le_of_ble_eq_true rfl) dX7_waiting_29) hp (fun I7 H locs h hp => ?_)
      refine ki (kV (As := []) (rest := []) X hp (C_X1_queuedBits (by decide) h) tw_ml_X7_225 vf_X1_queuedBits ⟨rfl, rfl, Nat.le_of_ble_eq_true rfl, Nat.le_of_ble_eq_true rfl⟩ (pr_rcvb X hp (by decide)) rfl hl.1 rfl (Nat.le_of_ble_eq_true rfl) dX7_waiting_32) hp (fun r10 I9 H locs h hp => ?_)
      refine lv_goto (tgt := 40) hx hb dX7_waiting_35 (by decide) ?_
      exact rt_i X hp h dX7_waiting_40
  · have h := h.2 c3
    refine lv_ldc (v := (-nI 1000002)) hx hb hown (hts _ tw_k_X7_132) dX7_waiting_10 ?_
    exact rt_i X hp h dX7_waiting_12
set_option maxRecDepth 100000 in
theorem C_X7_waiting {E : EE} {l : Launch} {x1 : Int32} {I : II} {Q : Int32 → II → Prop} (h : wp_X7_waiting x1 I Q) : Met l yX7_waiting (Cond.code yX7_waiting cX7_waiting 2 (some .int) :: lwT) rmX7_waiting (va_Pc [.ref (E.2.1 296), .int x1] (PU E I)) (va_Qi Q (BU E) E.2.2.2.1) 0 0 E.2.2.2.1 :=
  ofWalk [.ref (E.2.1 296), .int x1] (by decide) tw_c_X7_waiting (Nat.le_of_ble_eq_true rfl) (fun p e s m below meth c ls X hp hl => w_X7_waiting_0 X _ _ _ _ _ h hp hl)
abbrev rmX7_server : Room := { frames := 5, cells := 0, slots := 0, locals := 115 }
theorem vf_X7_server : VF yX7_server RX7 cX7_server 2 (some .int) 1 := ⟨tw_in_X7, tw_im_X7_server, tw_se_X7_server, tw_c_X7_server, by decide, by decide, by decide +kernel⟩
def wp_X7_server (x1 : Int32) (I : II) (Q : Int32 → II → Prop) : Prop := (wp_X1_knowsPaper 0 x1 I (fun r2 I1 => ((¬ r2 = 0 → (wp_X1_placeOf 0 x1 I1 (fun r5 I4 => ((¬ r5 = (-nI 1000000) → (wp_X2_serverOf 0 x1 I4 (fun r8 I7 => (Q r8 I7)))) ∧ (r5 = (-nI 1000000) → (Q (-nI 1000002) I4)))))) ∧ (r2 = 0 → (Q (-nI 1000001) I1)))))
set_option maxHeartbeats 4000000 in
set_option maxRecDepth 100000 in
theorem w_X7_server_0 {E : EE} {p : Program} {l : Launch} {e : Env} {s : State} {m : MethodId} {args : Array Value} {below : List Frame} {meth : Method} {c : Code} {Q : Int32 → II → Prop} (X : CX E p s m args meth c cX7_server 2 (some .int) RX7) : ∀ (x1 : Int32) (I : II) (H : Heap) (locs : List Loc) (ls : Array Slot), wp_X7_server x1 I Q → PP E s H locs I → lv_has ls 2 [(0, .ref (E.2.1 296)), (1, .int x1)] → W p l e rmX7_server s m args below meth c H locs 0 0 (MQ below (va_Qi Q (BU E) E.2.2.2.1) args s 0 0 E.2.2.2.1) (F0 m 0 ls []) := by
  obtain ⟨⟨hx, hb, hml, hown, hts⟩, hr, hlk, hK, hST, hN⟩ := id X
  intro x1 I H locs ls h hp hl
  unfold wp_X7_server at h
  refine lv_aload_n hx hb dX7_server_0 rfl (lv_at hl 0 rfl) ?_
  refine f_X7_26 X hp dX7_server_1 ?_
  refine lv_iload_n hx hb dX7_server_4 rfl (lv_at hl 1 rfl) ?_
  refine ki (kV (As := [.int x1]) (rest := []) X hp (C_X1_knowsPaper (by decide) h) tw_ml_X7_199 vf_X1_knowsPaper ⟨rfl, rfl, Nat.le_of_ble_eq_true rfl, Nat.le_of_ble_eq_true rfl⟩ (pr_rcvb X hp (by decide)) rfl hl.1 rfl (Nat.le_of_ble_eq_true rfl) dX7_server_5) hp (fun r2 I1 H locs h hp => ?_)
  refine lv_if_ne (tgt := 14) hx hb dX7_server_8 (by decide) (fun c3 => ?_) (fun c3 => ?_)
  · have h := h.1 c3
    refine lv_aload_n hx hb dX7_server_14 rfl (lv_at hl 0 rfl) ?_
    refine f_X7_26 X hp dX7_server_15 ?_
    refine lv_iload_n hx hb dX7_server_18 rfl (lv_at hl 1 rfl) ?_
    refine ki (kV (As := [.int x1]) (rest := []) X hp (C_X1_placeOf (by decide) h) tw_ml_X7_208 vf_X1_placeOf ⟨rfl, rfl, Nat.le_of_ble_eq_true rfl, Nat.le_of_ble_eq_true rfl⟩ (pr_rcvb X hp (by decide)) rfl hl.1 rfl (Nat.le_of_ble_eq_true rfl) dX7_server_19) hp (fun r5 I4 H locs h hp => ?_)
    refine lv_ldc (v := (-nI 1000000)) hx hb hown (hts _ tw_k_X7_228) dX7_server_22 ?_
    refine lv_icmp_ne (tgt := 32) hx hb dX7_server_24 (by decide) (fun c6 => ?_) (fun c6 => ?_)
    · have h := h.1 c6
      refine lv_aload_n hx hb dX7_server_32 rfl (lv_at hl 0 rfl) ?_
      refine f_X7_44 X hp dX7_server_33 ?_
      refine lv_aload_n hx hb dX7_server_36 rfl (lv_at hl 0 rfl) ?_
      refine f_X7_26 X hp dX7_server_37 ?_
      refine lv_iload_n hx hb dX7_server_40 rfl (lv_at hl 1 rfl) ?_
      refine ki (kV (As := [.ref (E.2.1 (8 * 0)), .int x1]) (rest := []) X hp (C_X2_serverOf (by decide) h) tw_ml_X7_229 vf_X2_serverOf ⟨rfl, rfl, Nat.le_of_ble_eq_true rfl, Nat.le_of_ble_eq_true rfl⟩ (pr_rcv X hp (k := 306) (by decide) (ob_306 _) (q := (RX2, TX2, 4)) rfl) rfl hl.1 rfl (Nat.le_of_ble_eq_true rfl) dX7_server_41) hp (fun r8 I7 H locs h hp => ?_)
      exact rt_i X hp h dX7_server_44
    · have h := h.2 c6
      refine lv_ldc (v := (-nI 1000002)) hx hb hown (hts _ tw_k_X7_132) dX7_server_27 ?_
      refine lv_goto (tgt := 44) hx hb dX7_server_29 (by decide) ?_
      exact rt_i X hp h dX7_server_44
  · have h := h.2 c3
    refine lv_ldc (v := (-nI 1000001)) hx hb hown (hts _ tw_k_X7_66) dX7_server_11 ?_
    exact rt_i X hp h dX7_server_13
set_option maxRecDepth 100000 in
theorem C_X7_server {E : EE} {l : Launch} {x1 : Int32} {I : II} {Q : Int32 → II → Prop} (h : wp_X7_server x1 I Q) : Met l yX7_server (Cond.code yX7_server cX7_server 2 (some .int) :: lwT) rmX7_server (va_Pc [.ref (E.2.1 296), .int x1] (PU E I)) (va_Qi Q (BU E) E.2.2.2.1) 0 0 E.2.2.2.1 :=
  ofWalk [.ref (E.2.1 296), .int x1] (by decide) tw_c_X7_server (Nat.le_of_ble_eq_true rfl) (fun p e s m below meth c ls X hp hl => w_X7_server_0 X _ _ _ _ _ h hp hl)
abbrev rmX7_holds : Room := { frames := 6, cells := 0, slots := 0, locals := 133 }
theorem vf_X7_holds : VF yX7_holds RX7 cX7_holds 1 (some .int) 0 := ⟨tw_in_X7, tw_im_X7_holds, tw_se_X7_holds, tw_c_X7_holds, by decide, by decide, by decide +kernel⟩
def wp_X7_holds (I : II) (Q : Int32 → II → Prop) : Prop := (wp_X1_isThere 0 I (fun r2 I1 => ((r2 = 0 → (Q (-nI 1000002) I1)) ∧ (¬ r2 = 0 → (wp_X2_paidAhead 0 I1 (fun r5 I4 => (Q r5 I4)))))))
set_option maxHeartbeats 4000000 in
set_option maxRecDepth 100000 in
theorem w_X7_holds_0 {E : EE} {p : Program} {l : Launch} {e : Env} {s : State} {m : MethodId} {args : Array Value} {below : List Frame} {meth : Method} {c : Code} {Q : Int32 → II → Prop} (X : CX E p s m args meth c cX7_holds 1 (some .int) RX7) : ∀ (I : II) (H : Heap) (locs : List Loc) (ls : Array Slot), wp_X7_holds I Q → PP E s H locs I → lv_has ls 1 [(0, .ref (E.2.1 296))] → W p l e rmX7_holds s m args below meth c H locs 0 0 (MQ below (va_Qi Q (BU E) E.2.2.2.1) args s 0 0 E.2.2.2.1) (F0 m 0 ls []) := by
  obtain ⟨⟨hx, hb, hml, hown, hts⟩, hr, hlk, hK, hST, hN⟩ := id X
  intro I H locs ls h hp hl
  unfold wp_X7_holds at h
  refine lv_aload_n hx hb dX7_holds_0 rfl (lv_at hl 0 rfl) ?_
  refine f_X7_26 X hp dX7_holds_1 ?_
  refine ki (kV (As := []) (rest := []) X hp (C_X1_isThere (by decide) h) tw_ml_X7_139 vf_X1_isThere ⟨rfl, rfl, Nat.le_of_ble_eq_true rfl, Nat.le_of_ble_eq_true rfl⟩ (pr_rcvb X hp (by decide)) rfl hl.1 rfl (Nat.le_of_ble_eq_true rfl) dX7_holds_4) hp (fun r2 I1 H locs h hp => ?_)
  refine lv_if_eq (tgt := 24) hx hb dX7_holds_7 (by decide) (fun c3 => ?_) (fun c3 => ?_)
  · have h := h.1 c3
    refine lv_ldc (v := (-nI 1000002)) hx hb hown (hts _ tw_k_X7_132) dX7_holds_24 ?_
    exact rt_i X hp h dX7_holds_26
  · have h := h.2 c3
    refine lv_aload_n hx hb dX7_holds_10 rfl (lv_at hl 0 rfl) ?_
    refine f_X7_44 X hp dX7_holds_11 ?_
    refine lv_aload_n hx hb dX7_holds_14 rfl (lv_at hl 0 rfl) ?_
    refine f_X7_26 X hp dX7_holds_15 ?_
    refine ki (kV (As := [.ref (E.2.1 (8 * 0))]) (rest := []) X hp (C_X2_paidAhead (by decide) h) tw_ml_X7_233 vf_X2_paidAhead ⟨rfl, rfl, Nat.le_of_ble_eq_true rfl, Nat.le_of_ble_eq_true rfl⟩ (pr_rcv X hp (k := 306) (by decide) (ob_306 _) (q := (RX2, TX2, 4)) rfl) rfl hl.1 rfl (Nat.le_of_ble_eq_true rfl) dX7_holds_18) hp (fun r5 I4 H locs h hp => ?_)
    refine lv_goto (tgt := 26) hx hb dX7_holds_21 (by decide) ?_
    exact rt_i X hp h dX7_holds_26
set_option maxRecDepth 100000 in
theorem C_X7_holds {E : EE} {l : Launch} {I : II} {Q : Int32 → II → Prop} (h : wp_X7_holds I Q) : Met l yX7_holds (Cond.code yX7_holds cX7_holds 1 (some .int) :: lwT) rmX7_holds (va_Pc [.ref (E.2.1 296)] (PU E I)) (va_Qi Q (BU E) E.2.2.2.1) 0 0 E.2.2.2.1 :=
  ofWalk [.ref (E.2.1 296)] (by decide) tw_c_X7_holds (Nat.le_of_ble_eq_true rfl) (fun p e s m below meth c ls X hp hl => w_X7_holds_0 X _ _ _ _ h hp hl)
abbrev rmX7_infant : Room := { frames := 5, cells := 0, slots := 0, locals := 112 }
theorem vf_X7_infant : VF yX7_infant RX7 cX7_infant 1 (some .int) 0 := ⟨tw_in_X7, tw_im_X7_infant, tw_se_X7_infant, tw_c_X7_infant, by decide, by decide, by decide +kernel⟩
def wp_X7_infant (I : II) (Q : Int32 → II → Prop) : Prop := (wp_X1_isThere 0 I (fun r2 I1 => ((r2 = 0 → (Q (-nI 1000002) I1)) ∧ (¬ r2 = 0 → (wp_X2_firstInfant 0 I1 (fun r5 I4 => (Q r5 I4)))))))
set_option maxHeartbeats 4000000 in
set_option maxRecDepth 100000 in
theorem w_X7_infant_0 {E : EE} {p : Program} {l : Launch} {e : Env} {s : State} {m : MethodId} {args : Array Value} {below : List Frame} {meth : Method} {c : Code} {Q : Int32 → II → Prop} (X : CX E p s m args meth c cX7_infant 1 (some .int) RX7) : ∀ (I : II) (H : Heap) (locs : List Loc) (ls : Array Slot), wp_X7_infant I Q → PP E s H locs I → lv_has ls 1 [(0, .ref (E.2.1 296))] → W p l e rmX7_infant s m args below meth c H locs 0 0 (MQ below (va_Qi Q (BU E) E.2.2.2.1) args s 0 0 E.2.2.2.1) (F0 m 0 ls []) := by
  obtain ⟨⟨hx, hb, hml, hown, hts⟩, hr, hlk, hK, hST, hN⟩ := id X
  intro I H locs ls h hp hl
  unfold wp_X7_infant at h
  refine lv_aload_n hx hb dX7_infant_0 rfl (lv_at hl 0 rfl) ?_
  refine f_X7_26 X hp dX7_infant_1 ?_
  refine ki (kV (As := []) (rest := []) X hp (C_X1_isThere (by decide) h) tw_ml_X7_139 vf_X1_isThere ⟨rfl, rfl, Nat.le_of_ble_eq_true rfl, Nat.le_of_ble_eq_true rfl⟩ (pr_rcvb X hp (by decide)) rfl hl.1 rfl (Nat.le_of_ble_eq_true rfl) dX7_infant_4) hp (fun r2 I1 H locs h hp => ?_)
  refine lv_if_eq (tgt := 24) hx hb dX7_infant_7 (by decide) (fun c3 => ?_) (fun c3 => ?_)
  · have h := h.1 c3
    refine lv_ldc (v := (-nI 1000002)) hx hb hown (hts _ tw_k_X7_132) dX7_infant_24 ?_
    exact rt_i X hp h dX7_infant_26
  · have h := h.2 c3
    refine lv_aload_n hx hb dX7_infant_10 rfl (lv_at hl 0 rfl) ?_
    refine f_X7_44 X hp dX7_infant_11 ?_
    refine lv_aload_n hx hb dX7_infant_14 rfl (lv_at hl 0 rfl) ?_
    refine f_X7_26 X hp dX7_infant_15 ?_
    refine ki (kV (As := [.ref (E.2.1 (8 * 0))]) (rest := []) X hp (C_X2_firstInfant (by decide) h) tw_ml_X7_237 vf_X2_firstInfant ⟨rfl, rfl, Nat.le_of_ble_eq_true rfl, Nat.le_of_ble_eq_true rfl⟩ (pr_rcv X hp (k := 306) (by decide) (ob_306 _) (q := (RX2, TX2, 4)) rfl) rfl hl.1 rfl (Nat.le_of_ble_eq_true rfl) dX7_infant_18) hp (fun r5 I4 H locs h hp => ?_)
    refine lv_goto (tgt := 26) hx hb dX7_infant_21 (by decide) ?_
    exact rt_i X hp h dX7_infant_26
set_option maxRecDepth 100000 in
theorem C_X7_infant {E : EE} {l : Launch} {I : II} {Q : Int32 → II → Prop} (h : wp_X7_infant I Q) : Met l yX7_infant (Cond.code yX7_infant cX7_infant 1 (some .int) :: lwT) rmX7_infant (va_Pc [.ref (E.2.1 296)] (PU E I)) (va_Qi Q (BU E) E.2.2.2.1) 0 0 E.2.2.2.1 :=
  ofWalk [.ref (E.2.1 296)] (by decide) tw_c_X7_infant (Nat.le_of_ble_eq_true rfl) (fun p e s m below meth c ls X hp hl => w_X7_infant_0 X _ _ _ _ h hp hl)
abbrev rmX7_order : Room := { frames := 50, cells := 0, slots := 0, locals := 1927 }
theorem vf_X7_order : VF yX7_order RX7 cX7_order 2 (some .int) 1 := ⟨tw_in_X7, tw_im_X7_order, tw_se_X7_order, tw_c_X7_order, by decide, by decide, by decide +kernel⟩
def wp_X7_order (x1 : Int32) (I : II) (Q : Int32 → II → Prop) : Prop := (wp_X1_isThere 0 I (fun r2 I1 => ((¬ r2 = 0 → (((-nI 2) ≤ x1 → (wp_X5_findOrder 0 I1 (fun I5 => ((¬ x1 = (-nI 2) → ((¬ x1 = (-nI 1) → (wp_X5_orderAt x1 I5 (fun r10 I9 => (Q r10 I9)))) ∧ (x1 = (-nI 1) → (Q (I5 308 6) I5)))) ∧ (x1 = (-nI 2) → (Q (I5 308 7) I5)))))) ∧ (¬ (-nI 2) ≤ x1 → (Q (-nI 1000001) I1)))) ∧ (r2 = 0 → (Q (-nI 1000002) I1)))))
set_option maxHeartbeats 4000000 in
set_option maxRecDepth 100000 in
theorem w_X7_order_0 {E : EE} {p : Program} {l : Launch} {e : Env} {s : State} {m : MethodId} {args : Array Value} {below : List Frame} {meth : Method} {c : Code} {Q : Int32 → II → Prop} (X : CX E p s m args meth c cX7_order 2 (some .int) RX7) : ∀ (x1 : Int32) (I : II) (H : Heap) (locs : List Loc) (ls : Array Slot), wp_X7_order x1 I Q → PP E s H locs I → lv_has ls 2 [(0, .ref (E.2.1 296)), (1, .int x1)] → W p l e rmX7_order s m args below meth c H locs 0 0 (MQ below (va_Qi Q (BU E) E.2.2.2.1) args s 0 0 E.2.2.2.1) (F0 m 0 ls []) := by
  obtain ⟨⟨hx, hb, hml, hown, hts⟩, hr, hlk, hK, hST, hN⟩ := id X
  intro x1 I H locs ls h hp hl
  unfold wp_X7_order at h
  refine lv_aload_n hx hb dX7_order_0 rfl (lv_at hl 0 rfl) ?_
  refine f_X7_26 X hp dX7_order_1 ?_
  refine ki (kV (As := []) (rest := []) X hp (C_X1_isThere (by decide) h) tw_ml_X7_139 vf_X1_isThere ⟨rfl, rfl, Nat.le_of_ble_eq_true rfl, Nat.le_of_ble_eq_true rfl⟩ (pr_rcvb X hp (by decide)) rfl hl.1 rfl (Nat.le_of_ble_eq_true rfl) dX7_order_4) hp (fun r2 I1 H locs h hp => ?_)
  refine lv_if_ne (tgt := 13) hx hb dX7_order_7 (by decide) (fun c3 => ?_) (fun c3 => ?_)
  · have h := h.1 c3
    refine lv_iload_n hx hb dX7_order_13 rfl (lv_at hl 1 rfl) ?_
    refine lv_bipush (v := (-nI 2)) hx hb dX7_order_14 (by decide) ?_
    refine lv_icmp_ge (tgt := 22) hx hb dX7_order_16 (by decide) (fun c4 => ?_) (fun c4 => ?_)
    · have h := h.1 c4
      refine lv_aload_n hx hb dX7_order_22 rfl (lv_at hl 0 rfl) ?_
      refine f_X7_51 X hp dX7_order_23 ?_
      refine lv_aload_n hx hb dX7_order_26 rfl (lv_at hl 0 rfl) ?_
      refine f_X7_26 X hp dX7_order_27 ?_
      refine kv (kV (As := [.ref (E.2.1 (8 * 0))]) (rest := []) X hp (C_X5_findOrder (by decide) h) tw_ml_X7_240 vf_X5_findOrder ⟨rfl, rfl, Nat.le_of_ble_eq_true rfl, Nat.le_of_ble_eq_true rfl⟩ (pr_rcv X hp (k := 308) (by decide) (ob_308 _) (q := (RX5, TX5, 11)) rfl) rfl hl.1 rfl (Nat.le_of_ble_eq_true rfl) dX7_order_30) hp (fun I5 H locs h hp => ?_)
      refine lv_iload_n hx hb dX7_order_33 rfl (lv_at hl 1 rfl) ?_
      refine lv_bipush (v := (-nI 2)) hx hb dX7_order_34 (by decide) ?_
      refine lv_icmp_ne (tgt := 47) hx hb dX7_order_36 (by decide) (fun c7 => ?_) (fun c7 => ?_)
      · have h := h.1 c7
        refine lv_iload_n hx hb dX7_order_47 rfl (lv_at hl 1 rfl) ?_
        refine lv_iconst (v := (-nI 1)) hx hb dX7_order_48 (by decide) ?_
        refine lv_icmp_ne (tgt := 62) hx hb dX7_order_49 (by decide) (fun c8 => ?_) (fun c8 => ?_)
        · have h := h.1 c8
          refine lv_aload_n hx hb dX7_order_62 rfl (lv_at hl 0 rfl) ?_
          refine f_X7_51 X hp dX7_order_63 ?_
          refine lv_iload_n hx hb dX7_order_66 rfl (lv_at hl 1 rfl) ?_
          refine ki (kV (As := [.int x1]) (rest := []) X hp (C_X5_orderAt  h) tw_ml_X7_249 vf_X5_orderAt ⟨rfl, rfl, Nat.le_of_ble_eq_true rfl, Nat.le_of_ble_eq_true rfl⟩ (pr_rcv X hp (k := 308) (by decide) (ob_308 _) (q := (RX5, TX5, 11)) rfl) rfl hl.1 rfl (Nat.le_of_ble_eq_true rfl) dX7_order_67) hp (fun r10 I9 H locs h hp => ?_)
          exact rt_i X hp h dX7_order_70
        · have h := h.2 c8
          refine lv_aload_n hx hb dX7_order_52 rfl (lv_at hl 0 rfl) ?_
          refine f_X7_51 X hp dX7_order_53 ?_
          refine f_X7_246 X hp dX7_order_56 ?_
          refine lv_goto (tgt := 70) hx hb dX7_order_59 (by decide) ?_
          exact rt_i X hp h dX7_order_70
      · have h := h.2 c7
        refine lv_aload_n hx hb dX7_order_39 rfl (lv_at hl 0 rfl) ?_
        refine f_X7_51 X hp dX7_order_40 ?_
        refine f_X7_243 X hp dX7_order_43 ?_
        exact rt_i X hp h dX7_order_46
    · have h := h.2 c4
      refine lv_ldc (v := (-nI 1000001)) hx hb hown (hts _ tw_k_X7_66) dX7_order_19 ?_
      exact rt_i X hp h dX7_order_21
  · have h := h.2 c3
    refine lv_ldc (v := (-nI 1000002)) hx hb hown (hts _ tw_k_X7_132) dX7_order_10 ?_
    exact rt_i X hp h dX7_order_12
set_option maxRecDepth 100000 in
theorem C_X7_order {E : EE} {l : Launch} {x1 : Int32} {I : II} {Q : Int32 → II → Prop} (h : wp_X7_order x1 I Q) : Met l yX7_order (Cond.code yX7_order cX7_order 2 (some .int) :: lwT) rmX7_order (va_Pc [.ref (E.2.1 296), .int x1] (PU E I)) (va_Qi Q (BU E) E.2.2.2.1) 0 0 E.2.2.2.1 :=
  ofWalk [.ref (E.2.1 296), .int x1] (by decide) tw_c_X7_order (Nat.le_of_ble_eq_true rfl) (fun p e s m below meth c ls X hp hl => w_X7_order_0 X _ _ _ _ _ h hp hl)
abbrev rmX7_share : Room := { frames := 50, cells := 0, slots := 0, locals := 1930 }
theorem vf_X7_share : VF yX7_share RX7 cX7_share 2 (some .int) 1 := ⟨tw_in_X7, tw_im_X7_share, tw_se_X7_share, tw_c_X7_share, by decide, by decide, by decide +kernel⟩
def wp_X7_share (x1 : Int32) (I : II) (Q : Int32 → II → Prop) : Prop := (wp_X1_isThere 0 I (fun r2 I1 => ((¬ r2 = 0 → (((-nI 1) ≤ x1 → (wp_X5_findShare 0 I1 (fun I5 => ((¬ x1 = (-nI 1) → (wp_X5_shareAt x1 I5 (fun r9 I8 => (Q r9 I8)))) ∧ (x1 = (-nI 1) → (Q (I5 308 8) I5)))))) ∧ (¬ (-nI 1) ≤ x1 → (Q (-nI 1000001) I1)))) ∧ (r2 = 0 → (Q (-nI 1000002) I1)))))
set_option maxHeartbeats 4000000 in
set_option maxRecDepth 100000 in
theorem w_X7_share_0 {E : EE} {p : Program} {l : Launch} {e : Env} {s : State} {m : MethodId} {args : Array Value} {below : List Frame} {meth : Method} {c : Code} {Q : Int32 → II → Prop} (X : CX E p s m args meth c cX7_share 2 (some .int) RX7) : ∀ (x1 : Int32) (I : II) (H : Heap) (locs : List Loc) (ls : Array Slot), wp_X7_share x1 I Q → PP E s H locs I → lv_has ls 2 [(0, .ref (E.2.1 296)), (1, .int x1)] → W p l e rmX7_share s m args below meth c H locs 0 0 (MQ below (va_Qi Q (BU E) E.2.2.2.1) args s 0 0 E.2.2.2.1) (F0 m 0 ls []) := by
  obtain ⟨⟨hx, hb, hml, hown, hts⟩, hr, hlk, hK, hST, hN⟩ := id X
  intro x1 I H locs ls h hp hl
  unfold wp_X7_share at h
  refine lv_aload_n hx hb dX7_share_0 rfl (lv_at hl 0 rfl) ?_
  refine f_X7_26 X hp dX7_share_1 ?_
  refine ki (kV (As := []) (rest := []) X hp (C_X1_isThere (by decide) h) tw_ml_X7_139 vf_X1_isThere ⟨rfl, rfl, Nat.le_of_ble_eq_true rfl, Nat.le_of_ble_eq_true rfl⟩ (pr_rcvb X hp (by decide)) rfl hl.1 rfl (Nat.le_of_ble_eq_true rfl) dX7_share_4) hp (fun r2 I1 H locs h hp => ?_)
  refine lv_if_ne (tgt := 13) hx hb dX7_share_7 (by decide) (fun c3 => ?_) (fun c3 => ?_)
  · have h := h.1 c3
    refine lv_iload_n hx hb dX7_share_13 rfl (lv_at hl 1 rfl) ?_
    refine lv_iconst (v := (-nI 1)) hx hb dX7_share_14 (by decide) ?_
    refine lv_icmp_ge (tgt := 21) hx hb dX7_share_15 (by decide) (fun c4 => ?_) (fun c4 => ?_)
    · have h := h.1 c4
      refine lv_aload_n hx hb dX7_share_21 rfl (lv_at hl 0 rfl) ?_
      refine f_X7_51 X hp dX7_share_22 ?_
      refine lv_aload_n hx hb dX7_share_25 rfl (lv_at hl 0 rfl) ?_
      refine f_X7_26 X hp dX7_share_26 ?_
      refine kv (kV (As := [.ref (E.2.1 (8 * 0))]) (rest := []) X hp (C_X5_findShare (by decide) h) tw_ml_X7_252 vf_X5_findShare ⟨rfl, rfl, Nat.le_of_ble_eq_true rfl, Nat.le_of_ble_eq_true rfl⟩ (pr_rcv X hp (k := 308) (by decide) (ob_308 _) (q := (RX5, TX5, 11)) rfl) rfl hl.1 rfl (Nat.le_of_ble_eq_true rfl) dX7_share_29) hp (fun I5 H locs h hp => ?_)
      refine lv_iload_n hx hb dX7_share_32 rfl (lv_at hl 1 rfl) ?_
      refine lv_iconst (v := (-nI 1)) hx hb dX7_share_33 (by decide) ?_
      refine lv_icmp_ne (tgt := 47) hx hb dX7_share_34 (by decide) (fun c7 => ?_) (fun c7 => ?_)
      · have h := h.1 c7
        refine lv_aload_n hx hb dX7_share_47 rfl (lv_at hl 0 rfl) ?_
        refine f_X7_51 X hp dX7_share_48 ?_
        refine lv_iload_n hx hb dX7_share_51 rfl (lv_at hl 1 rfl) ?_
        refine ki (kV (As := [.int x1]) (rest := []) X hp (C_X5_shareAt  h) tw_ml_X7_258 vf_X5_shareAt ⟨rfl, rfl, Nat.le_of_ble_eq_true rfl, Nat.le_of_ble_eq_true rfl⟩ (pr_rcv X hp (k := 308) (by decide) (ob_308 _) (q := (RX5, TX5, 11)) rfl) rfl hl.1 rfl (Nat.le_of_ble_eq_true rfl) dX7_share_52) hp (fun r9 I8 H locs h hp => ?_)
        exact rt_i X hp h dX7_share_55
      · have h := h.2 c7
        refine lv_aload_n hx hb dX7_share_37 rfl (lv_at hl 0 rfl) ?_
        refine f_X7_51 X hp dX7_share_38 ?_
        refine f_X7_255 X hp dX7_share_41 ?_
        refine lv_goto (tgt := 55) hx hb dX7_share_44 (by decide) ?_
        exact rt_i X hp h dX7_share_55
    · have h := h.2 c4
      refine lv_ldc (v := (-nI 1000001)) hx hb hown (hts _ tw_k_X7_66) dX7_share_18 ?_
      exact rt_i X hp h dX7_share_20
  · have h := h.2 c3
    refine lv_ldc (v := (-nI 1000002)) hx hb hown (hts _ tw_k_X7_132) dX7_share_10 ?_
    exact rt_i X hp h dX7_share_12
set_option maxRecDepth 100000 in
theorem C_X7_share {E : EE} {l : Launch} {x1 : Int32} {I : II} {Q : Int32 → II → Prop} (h : wp_X7_share x1 I Q) : Met l yX7_share (Cond.code yX7_share cX7_share 2 (some .int) :: lwT) rmX7_share (va_Pc [.ref (E.2.1 296), .int x1] (PU E I)) (va_Qi Q (BU E) E.2.2.2.1) 0 0 E.2.2.2.1 :=
  ofWalk [.ref (E.2.1 296), .int x1] (by decide) tw_c_X7_share (Nat.le_of_ble_eq_true rfl) (fun p e s m below meth c ls X hp hl => w_X7_share_0 X _ _ _ _ _ h hp hl)
abbrev rmX7_open : Room := { frames := 6, cells := 0, slots := 0, locals := 135 }
theorem vf_X7_open : VF yX7_open RX7 cX7_open 3 (some .int) 1 := ⟨tw_in_X7, tw_im_X7_open, tw_se_X7_open, tw_c_X7_open, by decide, by decide, by decide +kernel⟩
def wp_X7_open_46 (Q : Int32 → II → Prop) (x2 : Int32) (I : II) : Prop := (Q x2 I)
set_option maxHeartbeats 4000000 in
set_option maxRecDepth 100000 in
theorem w_X7_open_46 {E : EE} {p : Program} {l : Launch} {e : Env} {s : State} {m : MethodId} {args : Array Value} {below : List Frame} {meth : Method} {c : Code} {Q : Int32 → II → Prop} (X : CX E p s m args meth c cX7_open 3 (some .int) RX7) : ∀ (x2 : Int32) (I : II) (H : Heap) (locs : List Loc) (ls : Array Slot), wp_X7_open_46 Q x2 I → PP E s H locs I → lv_has ls 3 [(2, .int x2)] → W p l e rmX7_open s m args below meth c H locs 0 0 (MQ below (va_Qi Q (BU E) E.2.2.2.1) args s 0 0 E.2.2.2.1) (F0 m 46 ls []) := by
  obtain ⟨⟨hx, hb, hml, hown, hts⟩, hr, hlk, hK, hST, hN⟩ := id X
  intro x2 I H locs ls h hp hl
  unfold wp_X7_open_46 at h
  refine lv_iload_n hx hb dX7_open_46 rfl (lv_at hl 0 rfl) ?_
  refine lv_goto (tgt := 54) hx hb dX7_open_47 (by decide) ?_
  exact rt_i X hp h dX7_open_54
def wp_X7_open (x1 : Int32) (I : II) (Q : Int32 → II → Prop) : Prop := (wp_X1_isThere 0 I (fun r2 I1 => ((¬ r2 = 0 → (wp_X7_isChoice x1 I1 (fun r5 I4 => ((¬ r5 = 0 → (wp_X2_fewestCounters 0 I4 (fun r8 I7 => ((x1 = (nI 1) → (wp_X7_open_46 Q r8 I7)) ∧ (¬ x1 = (nI 1) → ((¬ r8 = (-nI 1000000) → (wp_J6_bitCount_0f7a4 r8 I7 (fun r12 I11 => (Q r12 I11)))) ∧ (r8 = (-nI 1000000) → (wp_X7_open_46 Q r8 I7)))))))) ∧ (r5 = 0 → (Q (-nI 1000001) I4)))))) ∧ (r2 = 0 → (Q (-nI 1000002) I1)))))
set_option maxHeartbeats 4000000 in
set_option maxRecDepth 100000 in
theorem w_X7_open_0 {E : EE} {p : Program} {l : Launch} {e : Env} {s : State} {m : MethodId} {args : Array Value} {below : List Frame} {meth : Method} {c : Code} {Q : Int32 → II → Prop} (X : CX E p s m args meth c cX7_open 3 (some .int) RX7) : ∀ (x1 : Int32) (I : II) (H : Heap) (locs : List Loc) (ls : Array Slot), wp_X7_open x1 I Q → PP E s H locs I → lv_has ls 3 [(0, .ref (E.2.1 296)), (1, .int x1)] → W p l e rmX7_open s m args below meth c H locs 0 0 (MQ below (va_Qi Q (BU E) E.2.2.2.1) args s 0 0 E.2.2.2.1) (F0 m 0 ls []) := by
  obtain ⟨⟨hx, hb, hml, hown, hts⟩, hr, hlk, hK, hST, hN⟩ := id X
  intro x1 I H locs ls h hp hl
  unfold wp_X7_open at h
  refine lv_aload_n hx hb dX7_open_0 rfl (lv_at hl 0 rfl) ?_
  refine f_X7_26 X hp dX7_open_1 ?_
  refine ki (kV (As := []) (rest := []) X hp (C_X1_isThere (by decide) h) tw_ml_X7_139 vf_X1_isThere ⟨rfl, rfl, Nat.le_of_ble_eq_true rfl, Nat.le_of_ble_eq_true rfl⟩ (pr_rcvb X hp (by decide)) rfl hl.1 rfl (Nat.le_of_ble_eq_true rfl) dX7_open_4) hp (fun r2 I1 H locs h hp => ?_)
  refine lv_if_ne (tgt := 13) hx hb dX7_open_7 (by decide) (fun c3 => ?_) (fun c3 => ?_)
  · have h := h.1 c3
    refine lv_iload_n hx hb dX7_open_13 rfl (lv_at hl 1 rfl) ?_
    refine ki (kS (As := [.int x1]) (rest := []) X hp (C_X7_isChoice  h) tw_ml_X7_158 sf_X7_isChoice ⟨rfl, rfl, Nat.le_of_ble_eq_true rfl, Nat.le_of_ble_eq_true rfl⟩ rfl hl.1 rfl (Nat.le_of_ble_eq_true rfl) dX7_open_14) hp (fun r5 I4 H locs h hp => ?_)
    refine lv_if_ne (tgt := 23) hx hb dX7_open_17 (by decide) (fun c6 => ?_) (fun c6 => ?_)
    · have h := h.1 c6
      refine lv_aload_n hx hb dX7_open_23 rfl (lv_at hl 0 rfl) ?_
      refine f_X7_44 X hp dX7_open_24 ?_
      refine lv_aload_n hx hb dX7_open_27 rfl (lv_at hl 0 rfl) ?_
      refine f_X7_26 X hp dX7_open_28 ?_
      refine ki (kV (As := [.ref (E.2.1 (8 * 0))]) (rest := []) X hp (C_X2_fewestCounters (by decide) h) tw_ml_X7_261 vf_X2_fewestCounters ⟨rfl, rfl, Nat.le_of_ble_eq_true rfl, Nat.le_of_ble_eq_true rfl⟩ (pr_rcv X hp (k := 306) (by decide) (ob_306 _) (q := (RX2, TX2, 4)) rfl) rfl hl.1 rfl (Nat.le_of_ble_eq_true rfl) dX7_open_31) hp (fun r8 I7 H locs h hp => ?_)
      refine lv_istore_n (lv' := [(2, .int r8), (0, .ref (E.2.1 296)), (1, .int x1)]) hx hb dX7_open_34 rfl hl (by decide) rfl (fun ls hl => ?_)
      refine lv_iload_n hx hb dX7_open_35 rfl (lv_at hl 2 rfl) ?_
      refine lv_iconst (v := (nI 1)) hx hb dX7_open_36 (by decide) ?_
      refine lv_icmp_eq (tgt := 46) hx hb dX7_open_37 (by decide) (fun c9 => ?_) (fun c9 => ?_)
      · have h := h.1 c9
        exact w_X7_open_46 X  _ _ _ _ _ h hp (lv_sub hl [0] rfl)
      · have h := h.2 c9
        refine lv_iload_n hx hb dX7_open_40 rfl (lv_at hl 0 rfl) ?_
        refine lv_ldc (v := (-nI 1000000)) hx hb hown (hts _ tw_k_X7_228) dX7_open_41 ?_
        refine lv_icmp_ne (tgt := 50) hx hb dX7_open_43 (by decide) (fun c10 => ?_) (fun c10 => ?_)
        · have h := h.1 c10
          refine lv_iload_n hx hb dX7_open_50 rfl (lv_at hl 0 rfl) ?_
          refine ki (kS (As := [.int r8]) (rest := []) X hp (C_J6_bitCount_0f7a4  h) tw_ml_X7_264 sf_J6_bitCount_0f7a4 ⟨rfl, rfl, Nat.le_of_ble_eq_true rfl, Nat.le_of_ble_eq_true rfl⟩ rfl hl.1 rfl (Nat.le_of_ble_eq_true rfl) dX7_open_51) hp (fun r12 I11 H locs h hp => ?_)
          exact rt_i X hp h dX7_open_54
        · have h := h.2 c10
          exact w_X7_open_46 X  _ _ _ _ _ h hp (lv_sub hl [0] rfl)
    · have h := h.2 c6
      refine lv_ldc (v := (-nI 1000001)) hx hb hown (hts _ tw_k_X7_66) dX7_open_20 ?_
      exact rt_i X hp h dX7_open_22
  · have h := h.2 c3
    refine lv_ldc (v := (-nI 1000002)) hx hb hown (hts _ tw_k_X7_132) dX7_open_10 ?_
    exact rt_i X hp h dX7_open_12
set_option maxRecDepth 100000 in
theorem C_X7_open {E : EE} {l : Launch} {x1 : Int32} {I : II} {Q : Int32 → II → Prop} (h : wp_X7_open x1 I Q) : Met l yX7_open (Cond.code yX7_open cX7_open 3 (some .int) :: lwT) rmX7_open (va_Pc [.ref (E.2.1 296), .int x1] (PU E I)) (va_Qi Q (BU E) E.2.2.2.1) 0 0 E.2.2.2.1 :=
  ofWalk [.ref (E.2.1 296), .int x1] (by decide) tw_c_X7_open (Nat.le_of_ble_eq_true rfl) (fun p e s m below meth c ls X hp hl => w_X7_open_0 X _ _ _ _ _ h hp hl)
abbrev rmX7_cheap : Room := { frames := 2, cells := 0, slots := 0, locals := 46 }
theorem vf_X7_cheap : VF yX7_cheap RX7 cX7_cheap 4 (some .int) 2 := ⟨tw_in_X7, tw_im_X7_cheap, tw_se_X7_cheap, tw_c_X7_cheap, by decide, by decide, by decide +kernel⟩
def wp_X7_cheap (x1 : Int32) (x2 : Int32) (I : II) (Q : Int32 → II → Prop) : Prop := (wp_X1_isThere 0 I (fun r2 I1 => ((¬ r2 = 0 → (wp_X7_isSum x1 I1 (fun r5 I4 => ((r5 = 0 → (Q (-nI 1000001) I4)) ∧ (¬ r5 = 0 → (wp_X7_isChoice x2 I4 (fun r8 I7 => ((¬ r8 = 0 → (wp_X1_cheapestFor 0 x1 I7 (fun r11 I10 => ((¬ x2 = 0 → (wp_X1_costTo 0 r11 x1 I10 (fun r14 I13 => (Q r14 I13)))) ∧ (x2 = 0 → (Q r11 I10)))))) ∧ (r8 = 0 → (Q (-nI 1000001) I7)))))))))) ∧ (r2 = 0 → (Q (-nI 1000002) I1)))))
set_option maxHeartbeats 4000000 in
set_option maxRecDepth 100000 in
theorem w_X7_cheap_0 {E : EE} {p : Program} {l : Launch} {e : Env} {s : State} {m : MethodId} {args : Array Value} {below : List Frame} {meth : Method} {c : Code} {Q : Int32 → II → Prop} (X : CX E p s m args meth c cX7_cheap 4 (some .int) RX7) : ∀ (x1 : Int32) (x2 : Int32) (I : II) (H : Heap) (locs : List Loc) (ls : Array Slot), wp_X7_cheap x1 x2 I Q → PP E s H locs I → lv_has ls 4 [(0, .ref (E.2.1 296)), (1, .int x1), (2, .int x2)] → W p l e rmX7_cheap s m args below meth c H locs 0 0 (MQ below (va_Qi Q (BU E) E.2.2.2.1) args s 0 0 E.2.2.2.1) (F0 m 0 ls []) := by
  obtain ⟨⟨hx, hb, hml, hown, hts⟩, hr, hlk, hK, hST, hN⟩ := id X
  intro x1 x2 I H locs ls h hp hl
  unfold wp_X7_cheap at h
  refine lv_aload_n hx hb dX7_cheap_0 rfl (lv_at hl 0 rfl) ?_
  refine f_X7_26 X hp dX7_cheap_1 ?_
  refine ki (kV (As := []) (rest := []) X hp (C_X1_isThere (by decide) h) tw_ml_X7_139 vf_X1_isThere ⟨rfl, rfl, Nat.le_of_ble_eq_true rfl, Nat.le_of_ble_eq_true rfl⟩ (pr_rcvb X hp (by decide)) rfl hl.1 rfl (Nat.le_of_ble_eq_true rfl) dX7_cheap_4) hp (fun r2 I1 H locs h hp => ?_)
  refine lv_if_ne (tgt := 13) hx hb dX7_cheap_7 (by decide) (fun c3 => ?_) (fun c3 => ?_)
  · have h := h.1 c3
    refine lv_iload_n hx hb dX7_cheap_13 rfl (lv_at hl 1 rfl) ?_
    refine ki (kS (As := [.int x1]) (rest := []) X hp (C_X7_isSum  h) tw_ml_X7_167 sf_X7_isSum ⟨rfl, rfl, Nat.le_of_ble_eq_true rfl, Nat.le_of_ble_eq_true rfl⟩ rfl hl.1 rfl (Nat.le_of_ble_eq_true rfl) dX7_cheap_14) hp (fun r5 I4 H locs h hp => ?_)
    refine lv_if_eq (tgt := 27) hx hb dX7_cheap_17 (by decide) (fun c6 => ?_) (fun c6 => ?_)
    · have h := h.1 c6
      refine lv_ldc (v := (-nI 1000001)) hx hb hown (hts _ tw_k_X7_66) dX7_cheap_27 ?_
      exact rt_i X hp h dX7_cheap_29
    · have h := h.2 c6
      refine lv_iload_n hx hb dX7_cheap_20 rfl (lv_at hl 2 rfl) ?_
      refine ki (kS (As := [.int x2]) (rest := []) X hp (C_X7_isChoice  h) tw_ml_X7_158 sf_X7_isChoice ⟨rfl, rfl, Nat.le_of_ble_eq_true rfl, Nat.le_of_ble_eq_true rfl⟩ rfl hl.1 rfl (Nat.le_of_ble_eq_true rfl) dX7_cheap_21) hp (fun r8 I7 H locs h hp => ?_)
      refine lv_if_ne (tgt := 30) hx hb dX7_cheap_24 (by decide) (fun c9 => ?_) (fun c9 => ?_)
      · have h := h.1 c9
        refine lv_aload_n hx hb dX7_cheap_30 rfl (lv_at hl 0 rfl) ?_
        refine f_X7_26 X hp dX7_cheap_31 ?_
        refine lv_iload_n hx hb dX7_cheap_34 rfl (lv_at hl 1 rfl) ?_
        refine ki (kV (As := [.int x1]) (rest := []) X hp (C_X1_cheapestFor (by decide) h) tw_ml_X7_269 vf_X1_cheapestFor ⟨rfl, rfl, Nat.le_of_ble_eq_true rfl, Nat.le_of_ble_eq_true rfl⟩ (pr_rcvb X hp (by decide)) rfl hl.1 rfl (Nat.le_of_ble_eq_true rfl) dX7_cheap_35) hp (fun r11 I10 H locs h hp => ?_)
        refine lv_istore_n (lv' := [(3, .int r11), (0, .ref (E.2.1 296)), (1, .int x1), (2, .int x2)]) hx hb dX7_cheap_38 rfl hl (by decide) rfl (fun ls hl => ?_)
        refine lv_iload_n hx hb dX7_cheap_39 rfl (lv_at hl 3 rfl) ?_
        refine lv_if_ne (tgt := 47) hx hb dX7_cheap_40 (by decide) (fun c12 => ?_) (fun c12 => ?_)
        · have h := h.1 c12
          refine lv_aload_n hx hb dX7_cheap_47 rfl (lv_at hl 1 rfl) ?_
          refine f_X7_26 X hp dX7_cheap_48 ?_
          refine lv_iload_n hx hb dX7_cheap_51 rfl (lv_at hl 0 rfl) ?_
          refine lv_iload_n hx hb dX7_cheap_52 rfl (lv_at hl 2 rfl) ?_
          refine ki (kV (As := [.int r11, .int x1]) (rest := []) X hp (C_X1_costTo (by decide) h) tw_ml_X7_211 vf_X1_costTo ⟨rfl, rfl, Nat.le_of_ble_eq_true rfl, Nat.le_of_ble_eq_true rfl⟩ (pr_rcvb X hp (by decide)) rfl hl.1 rfl (Nat.le_of_ble_eq_true rfl) dX7_cheap_53) hp (fun r14 I13 H locs h hp => ?_)
          exact rt_i X hp h dX7_cheap_56
        · have h := h.2 c12
          refine lv_iload_n hx hb dX7_cheap_43 rfl (lv_at hl 0 rfl) ?_
          refine lv_goto (tgt := 56) hx hb dX7_cheap_44 (by decide) ?_
          exact rt_i X hp h dX7_cheap_56
      · have h := h.2 c9
        refine lv_ldc (v := (-nI 1000001)) hx hb hown (hts _ tw_k_X7_66) dX7_cheap_27 ?_
        exact rt_i X hp h dX7_cheap_29
  · have h := h.2 c3
    refine lv_ldc (v := (-nI 1000002)) hx hb hown (hts _ tw_k_X7_132) dX7_cheap_10 ?_
    exact rt_i X hp h dX7_cheap_12
set_option maxRecDepth 100000 in
theorem C_X7_cheap {E : EE} {l : Launch} {x1 : Int32} {x2 : Int32} {I : II} {Q : Int32 → II → Prop} (h : wp_X7_cheap x1 x2 I Q) : Met l yX7_cheap (Cond.code yX7_cheap cX7_cheap 4 (some .int) :: lwT) rmX7_cheap (va_Pc [.ref (E.2.1 296), .int x1, .int x2] (PU E I)) (va_Qi Q (BU E) E.2.2.2.1) 0 0 E.2.2.2.1 :=
  ofWalk [.ref (E.2.1 296), .int x1, .int x2] (by decide) tw_c_X7_cheap (Nat.le_of_ble_eq_true rfl) (fun p e s m below meth c ls X hp hl => w_X7_cheap_0 X _ _ _ _ _ _ h hp hl)
abbrev rmX7_most : Room := { frames := 3, cells := 0, slots := 0, locals := 68 }
theorem vf_X7_most : VF yX7_most RX7 cX7_most 1 (some .int) 0 := ⟨tw_in_X7, tw_im_X7_most, tw_se_X7_most, tw_c_X7_most, by decide, by decide, by decide +kernel⟩
def wp_X7_most (I : II) (Q : Int32 → II → Prop) : Prop := (wp_X1_isThere 0 I (fun r2 I1 => ((r2 = 0 → (Q (-nI 1000002) I1)) ∧ (¬ r2 = 0 → (wp_X1_greatestSum 0 I1 (fun r5 I4 => (Q r5 I4)))))))
set_option maxHeartbeats 4000000 in
set_option maxRecDepth 100000 in
theorem w_X7_most_0 {E : EE} {p : Program} {l : Launch} {e : Env} {s : State} {m : MethodId} {args : Array Value} {below : List Frame} {meth : Method} {c : Code} {Q : Int32 → II → Prop} (X : CX E p s m args meth c cX7_most 1 (some .int) RX7) : ∀ (I : II) (H : Heap) (locs : List Loc) (ls : Array Slot), wp_X7_most I Q → PP E s H locs I → lv_has ls 1 [(0, .ref (E.2.1 296))] → W p l e rmX7_most s m args below meth c H locs 0 0 (MQ below (va_Qi Q (BU E) E.2.2.2.1) args s 0 0 E.2.2.2.1) (F0 m 0 ls []) := by
  obtain ⟨⟨hx, hb, hml, hown, hts⟩, hr, hlk, hK, hST, hN⟩ := id X
  intro I H locs ls h hp hl
  unfold wp_X7_most at h
  refine lv_aload_n hx hb dX7_most_0 rfl (lv_at hl 0 rfl) ?_
  refine f_X7_26 X hp dX7_most_1 ?_
  refine ki (kV (As := []) (rest := []) X hp (C_X1_isThere (by decide) h) tw_ml_X7_139 vf_X1_isThere ⟨rfl, rfl, Nat.le_of_ble_eq_true rfl, Nat.le_of_ble_eq_true rfl⟩ (pr_rcvb X hp (by decide)) rfl hl.1 rfl (Nat.le_of_ble_eq_true rfl) dX7_most_4) hp (fun r2 I1 H locs h hp => ?_)
  refine lv_if_eq (tgt := 20) hx hb dX7_most_7 (by decide) (fun c3 => ?_) (fun c3 => ?_)
  · have h := h.1 c3
    refine lv_ldc (v := (-nI 1000002)) hx hb hown (hts _ tw_k_X7_132) dX7_most_20 ?_
    exact rt_i X hp h dX7_most_22
  · have h := h.2 c3
    refine lv_aload_n hx hb dX7_most_10 rfl (lv_at hl 0 rfl) ?_
    refine f_X7_26 X hp dX7_most_11 ?_
    refine ki (kV (As := []) (rest := []) X hp (C_X1_greatestSum (by decide) h) tw_ml_X7_272 vf_X1_greatestSum ⟨rfl, rfl, Nat.le_of_ble_eq_true rfl, Nat.le_of_ble_eq_true rfl⟩ (pr_rcvb X hp (by decide)) rfl hl.1 rfl (Nat.le_of_ble_eq_true rfl) dX7_most_14) hp (fun r5 I4 H locs h hp => ?_)
    refine lv_goto (tgt := 22) hx hb dX7_most_17 (by decide) ?_
    exact rt_i X hp h dX7_most_22
set_option maxRecDepth 100000 in
theorem C_X7_most {E : EE} {l : Launch} {I : II} {Q : Int32 → II → Prop} (h : wp_X7_most I Q) : Met l yX7_most (Cond.code yX7_most cX7_most 1 (some .int) :: lwT) rmX7_most (va_Pc [.ref (E.2.1 296)] (PU E I)) (va_Qi Q (BU E) E.2.2.2.1) 0 0 E.2.2.2.1 :=
  ofWalk [.ref (E.2.1 296)] (by decide) tw_c_X7_most (Nat.le_of_ble_eq_true rfl) (fun p e s m below meth c ls X hp hl => w_X7_most_0 X _ _ _ _ h hp hl)
abbrev rmX7_twins : Room := { frames := 1, cells := 0, slots := 0, locals := 23 }
theorem vf_X7_twins : VF yX7_twins RX7 cX7_twins 2 (some .int) 1 := ⟨tw_in_X7, tw_im_X7_twins, tw_se_X7_twins, tw_c_X7_twins, by decide, by decide, by decide +kernel⟩
def wp_X7_twins (x1 : Int32) (I : II) (Q : Int32 → II → Prop) : Prop := (wp_X1_isThere 0 I (fun r2 I1 => ((¬ r2 = 0 → (wp_X7_isChoice x1 I1 (fun r5 I4 => ((¬ r5 = 0 → ((¬ x1 = 0 → (wp_X1_firstTwins 0 I4 (fun r9 I8 => (Q r9 I8)))) ∧ (x1 = 0 → (wp_X1_twinPairs 0 I4 (fun r11 I10 => (Q r11 I10)))))) ∧ (r5 = 0 → (Q (-nI 1000001) I4)))))) ∧ (r2 = 0 → (Q (-nI 1000002) I1)))))
set_option maxHeartbeats 4000000 in
set_option maxRecDepth 100000 in
theorem w_X7_twins_0 {E : EE} {p : Program} {l : Launch} {e : Env} {s : State} {m : MethodId} {args : Array Value} {below : List Frame} {meth : Method} {c : Code} {Q : Int32 → II → Prop} (X : CX E p s m args meth c cX7_twins 2 (some .int) RX7) : ∀ (x1 : Int32) (I : II) (H : Heap) (locs : List Loc) (ls : Array Slot), wp_X7_twins x1 I Q → PP E s H locs I → lv_has ls 2 [(0, .ref (E.2.1 296)), (1, .int x1)] → W p l e rmX7_twins s m args below meth c H locs 0 0 (MQ below (va_Qi Q (BU E) E.2.2.2.1) args s 0 0 E.2.2.2.1) (F0 m 0 ls []) := by
  obtain ⟨⟨hx, hb, hml, hown, hts⟩, hr, hlk, hK, hST, hN⟩ := id X
  intro x1 I H locs ls h hp hl
  unfold wp_X7_twins at h
  refine lv_aload_n hx hb dX7_twins_0 rfl (lv_at hl 0 rfl) ?_
  refine f_X7_26 X hp dX7_twins_1 ?_
  refine ki (kV (As := []) (rest := []) X hp (C_X1_isThere (by decide) h) tw_ml_X7_139 vf_X1_isThere ⟨rfl, rfl, Nat.le_of_ble_eq_true rfl, Nat.le_of_ble_eq_true rfl⟩ (pr_rcvb X hp (by decide)) rfl hl.1 rfl (Nat.le_of_ble_eq_true rfl) dX7_twins_4) hp (fun r2 I1 H locs h hp => ?_)
  refine lv_if_ne (tgt := 13) hx hb dX7_twins_7 (by decide) (fun c3 => ?_) (fun c3 => ?_)
  · have h := h.1 c3
    refine lv_iload_n hx hb dX7_twins_13 rfl (lv_at hl 1 rfl) ?_
    refine ki (kS (As := [.int x1]) (rest := []) X hp (C_X7_isChoice  h) tw_ml_X7_158 sf_X7_isChoice ⟨rfl, rfl, Nat.le_of_ble_eq_true rfl, Nat.le_of_ble_eq_true rfl⟩ rfl hl.1 rfl (Nat.le_of_ble_eq_true rfl) dX7_twins_14) hp (fun r5 I4 H locs h hp => ?_)
    refine lv_if_ne (tgt := 23) hx hb dX7_twins_17 (by decide) (fun c6 => ?_) (fun c6 => ?_)
    · have h := h.1 c6
      refine lv_iload_n hx hb dX7_twins_23 rfl (lv_at hl 1 rfl) ?_
      refine lv_if_ne (tgt := 37) hx hb dX7_twins_24 (by decide) (fun c7 => ?_) (fun c7 => ?_)
      · have h := h.1 c7
        refine lv_aload_n hx hb dX7_twins_37 rfl (lv_at hl 0 rfl) ?_
        refine f_X7_26 X hp dX7_twins_38 ?_
        refine ki (kV (As := []) (rest := []) X hp (C_X1_firstTwins (by decide) h) tw_ml_X7_278 vf_X1_firstTwins ⟨rfl, rfl, Nat.le_of_ble_eq_true rfl, Nat.le_of_ble_eq_true rfl⟩ (pr_rcvb X hp (by decide)) rfl hl.1 rfl (Nat.le_of_ble_eq_true rfl) dX7_twins_41) hp (fun r9 I8 H locs h hp => ?_)
        exact rt_i X hp h dX7_twins_44
      · have h := h.2 c7
        refine lv_aload_n hx hb dX7_twins_27 rfl (lv_at hl 0 rfl) ?_
        refine f_X7_26 X hp dX7_twins_28 ?_
        refine ki (kV (As := []) (rest := []) X hp (C_X1_twinPairs (by decide) h) tw_ml_X7_275 vf_X1_twinPairs ⟨rfl, rfl, Nat.le_of_ble_eq_true rfl, Nat.le_of_ble_eq_true rfl⟩ (pr_rcvb X hp (by decide)) rfl hl.1 rfl (Nat.le_of_ble_eq_true rfl) dX7_twins_31) hp (fun r11 I10 H locs h hp => ?_)
        refine lv_goto (tgt := 44) hx hb dX7_twins_34 (by decide) ?_
        exact rt_i X hp h dX7_twins_44
    · have h := h.2 c6
      refine lv_ldc (v := (-nI 1000001)) hx hb hown (hts _ tw_k_X7_66) dX7_twins_20 ?_
      exact rt_i X hp h dX7_twins_22
  · have h := h.2 c3
    refine lv_ldc (v := (-nI 1000002)) hx hb hown (hts _ tw_k_X7_132) dX7_twins_10 ?_
    exact rt_i X hp h dX7_twins_12
set_option maxRecDepth 100000 in
theorem C_X7_twins {E : EE} {l : Launch} {x1 : Int32} {I : II} {Q : Int32 → II → Prop} (h : wp_X7_twins x1 I Q) : Met l yX7_twins (Cond.code yX7_twins cX7_twins 2 (some .int) :: lwT) rmX7_twins (va_Pc [.ref (E.2.1 296), .int x1] (PU E I)) (va_Qi Q (BU E) E.2.2.2.1) 0 0 E.2.2.2.1 :=
  ofWalk [.ref (E.2.1 296), .int x1] (by decide) tw_c_X7_twins (Nat.le_of_ble_eq_true rfl) (fun p e s m below meth c ls X hp hl => w_X7_twins_0 X _ _ _ _ _ h hp hl)

abbrev rmX7_isRow : Room := { frames := 0, cells := 0, slots := 0, locals := 0 }
theorem sf_X7_isRow : SF yX7_isRow cX7_isRow 1 (some .boolean) 1 := ⟨tw_in_X7, tw_st_X7_isRow, tw_c_X7_isRow, by decide, by decide, by decide +kernel⟩
def wp_X7_isRow (x0 : Int32) (I : II) (Q : Int32 → II → Prop) : Prop := ((x0 < 0 → (Q (nI 0) I)) ∧ (¬ x0 < 0 → (((nI 8) ≤ x0 → (Q (nI 0) I)) ∧ (¬ (nI 8) ≤ x0 → (Q (nI 1) I)))))
set_option maxHeartbeats 4000000 in
set_option maxRecDepth 100000 in
theorem w_X7_isRow_0 {E : EE} {p : Program} {l : Launch} {e : Env} {s : State} {m : MethodId} {args : Array Value} {below : List Frame} {meth : Method} {c : Code} {Q : Int32 → II → Prop} (X : CX E p s m args meth c cX7_isRow 1 (some .boolean) RX7) : ∀ (x0 : Int32) (I : II) (H : Heap) (locs : List Loc) (ls : Array Slot), wp_X7_isRow x0 I Q → PP E s H locs I → lv_has ls 1 [(0, .int x0)] → W p l e rmX7_isRow s m args below meth c H locs 0 0 (MQ below (va_Qi Q (BU E) E.2.2.2.1) args s 0 0 E.2.2.2.1) (F0 m 0 ls []) := by
  obtain ⟨⟨hx, hb, hml, hown, hts⟩, hr, hlk, hK, hST, hN⟩ := id X
  intro x0 I H locs ls h hp hl
  unfold wp_X7_isRow at h
  refine lv_iload_n hx hb dX7_isRow_0 rfl (lv_at hl 0 rfl) ?_
  refine lv_if_lt (tgt := 14) hx hb dX7_isRow_1 (by decide) (fun c1 => ?_) (fun c1 => ?_)
  · have h := h.1 c1
    refine lv_iconst (v := (nI 0)) hx hb dX7_isRow_14 (by decide) ?_
    exact rt_z X hp ⟨Or.inl rfl, h⟩ dX7_isRow_15
  · have h := h.2 c1
    refine lv_iload_n hx hb dX7_isRow_4 rfl (lv_at hl 0 rfl) ?_
    refine lv_bipush (v := (nI 8)) hx hb dX7_isRow_5 (by decide) ?_
    refine lv_icmp_ge (tgt := 14) hx hb dX7_isRow_7 (by decide) (fun c2 => ?_) (fun c2 => ?_)
    · have h := h.1 c2
      refine lv_iconst (v := (nI 0)) hx hb dX7_isRow_14 (by decide) ?_
      exact rt_z X hp ⟨Or.inl rfl, h⟩ dX7_isRow_15
    · have h := h.2 c2
      refine lv_iconst (v := (nI 1)) hx hb dX7_isRow_10 (by decide) ?_
      refine lv_goto (tgt := 15) hx hb dX7_isRow_11 (by decide) ?_
      exact rt_z X hp ⟨Or.inr rfl, h⟩ dX7_isRow_15
set_option maxRecDepth 100000 in
theorem C_X7_isRow {E : EE} {l : Launch} {x0 : Int32} {I : II} {Q : Int32 → II → Prop} (h : wp_X7_isRow x0 I Q) : Met l yX7_isRow (Cond.code yX7_isRow cX7_isRow 1 (some .boolean) :: lwT) rmX7_isRow (va_Pc [.int x0] (PU E I)) (va_Qi Q (BU E) E.2.2.2.1) 0 0 E.2.2.2.1 :=
  ofWalk [.int x0] (by decide) tw_c_X7_isRow (Nat.le_of_ble_eq_true rfl) (fun p e s m below meth c ls X hp hl => w_X7_isRow_0 X _ _ _ _ _ h hp hl)
abbrev rmX4_hasSpan : Room := { frames := 1, cells := 0, slots := 0, locals := 20 }
theorem vf_X4_hasSpan : VF yX4_hasSpan RX4 cX4_hasSpan 4 (some .boolean) 3 := ⟨tw_in_X4, tw_im_X4_hasSpan, tw_se_X4_hasSpan, tw_c_X4_hasSpan, by decide, by decide, by decide +kernel⟩
def wp_X4_hasSpan (x1 : Int32) (x2 : Int32) (x3 : Int32) (I : II) (Q : Int32 → II → Prop) : Prop := (wp_X7_isRow x1 I (fun r2 I1 => ((r2 = 0 → (Q (nI 0) I1)) ∧ (¬ r2 = 0 → ((x2 < 0 → (Q (nI 0) I1)) ∧ (¬ x2 < 0 → ((x3 < 0 → (Q (nI 0) I1)) ∧ (¬ x3 < 0 → (vp_in x1 8 ∧ ((((I1 299 x1.toNatClampNeg) - x3) < x2 → (Q (nI 0) I1)) ∧ (¬ ((I1 299 x1.toNatClampNeg) - x3) < x2 → (Q (nI 1) I1))))))))))))
set_option maxHeartbeats 4000000 in
set_option maxRecDepth 100000 in
theorem w_X4_hasSpan_0 {E : EE} {p : Program} {l : Launch} {e : Env} {s : State} {m : MethodId} {args : Array Value} {below : List Frame} {meth : Method} {c : Code} {Q : Int32 → II → Prop} (X : CX E p s m args meth c cX4_hasSpan 4 (some .boolean) RX4) : ∀ (x1 : Int32) (x2 : Int32) (x3 : Int32) (I : II) (H : Heap) (locs : List Loc) (ls : Array Slot), wp_X4_hasSpan x1 x2 x3 I Q → PP E s H locs I → lv_has ls 4 [(0, .ref (E.2.1 297)), (1, .int x1), (2, .int x2), (3, .int x3)] → W p l e rmX4_hasSpan s m args below meth c H locs 0 0 (MQ below (va_Qi Q (BU E) E.2.2.2.1) args s 0 0 E.2.2.2.1) (F0 m 0 ls []) := by
  obtain ⟨⟨hx, hb, hml, hown, hts⟩, hr, hlk, hK, hST, hN⟩ := id X
  intro x1 x2 x3 I H locs ls h hp hl
  unfold wp_X4_hasSpan at h
  refine lv_iload_n hx hb dX4_hasSpan_0 rfl (lv_at hl 1 rfl) ?_
  refine ki (kSN (As := [.int x1]) (rest := []) X hp (C_X7_isRow  h) (List.mem_of_getElem? (i := 9) rfl) sf_X7_isRow ⟨rfl, rfl, Nat.le_of_ble_eq_true rfl, Nat.le_of_ble_eq_true rfl⟩ rfl hl.1 rfl (Nat.le_of_ble_eq_true rfl) dX4_hasSpan_1) hp (fun r2 I1 H locs h hp => ?_)
  refine lv_if_eq (tgt := 31) hx hb dX4_hasSpan_4 (by decide) (fun c3 => ?_) (fun c3 => ?_)
  · have h := h.1 c3
    refine lv_iconst (v := (nI 0)) hx hb dX4_hasSpan_31 (by decide) ?_
    exact rt_z X hp ⟨Or.inl rfl, h⟩ dX4_hasSpan_32
  · have h := h.2 c3
    refine lv_iload_n hx hb dX4_hasSpan_7 rfl (lv_at hl 2 rfl) ?_
    refine lv_if_lt (tgt := 31) hx hb dX4_hasSpan_8 (by decide) (fun c4 => ?_) (fun c4 => ?_)
    · have h := h.1 c4
      refine lv_iconst (v := (nI 0)) hx hb dX4_hasSpan_31 (by decide) ?_
      exact rt_z X hp ⟨Or.inl rfl, h⟩ dX4_hasSpan_32
    · have h := h.2 c4
      refine lv_iload_n hx hb dX4_hasSpan_11 rfl (lv_at hl 3 rfl) ?_
      refine lv_if_lt (tgt := 31) hx hb dX4_hasSpan_12 (by decide) (fun c5 => ?_) (fun c5 => ?_)
      · have h := h.1 c5
        refine lv_iconst (v := (nI 0)) hx hb dX4_hasSpan_31 (by decide) ?_
        exact rt_z X hp ⟨Or.inl rfl, h⟩ dX4_hasSpan_32
      · have h := h.2 c5
        refine lv_iload_n hx hb dX4_hasSpan_15 rfl (lv_at hl 2 rfl) ?_
        refine lv_aload_n hx hb dX4_hasSpan_16 rfl (lv_at hl 0 rfl) ?_
        refine f_X4_16 X hp dX4_hasSpan_17 ?_
        refine lv_iload_n hx hb dX4_hasSpan_20 rfl (lv_at hl 1 rfl) ?_
        have hv6 := h.1
        have h := h.2
        refine al_i X hp ar_s299 hv6 dX4_hasSpan_21 ?_
        refine lv_iload_n hx hb dX4_hasSpan_22 rfl (lv_at hl 3 rfl) ?_
        refine lv_isub hx hb dX4_hasSpan_23 ?_
        refine lv_icmp_gt (tgt := 31) hx hb dX4_hasSpan_24 (by decide) (fun c7 => ?_) (fun c7 => ?_)
        · have h := h.1 c7
          refine lv_iconst (v := (nI 0)) hx hb dX4_hasSpan_31 (by decide) ?_
          exact rt_z X hp ⟨Or.inl rfl, h⟩ dX4_hasSpan_32
        · have h := h.2 c7
          refine lv_iconst (v := (nI 1)) hx hb dX4_hasSpan_27 (by decide) ?_
          refine lv_goto (tgt := 32) hx hb dX4_hasSpan_28 (by decide) ?_
          exact rt_z X hp ⟨Or.inr rfl, h⟩ dX4_hasSpan_32
set_option maxRecDepth 100000 in
theorem C_X4_hasSpan {E : EE} {l : Launch} {x1 : Int32} {x2 : Int32} {x3 : Int32} {I : II} {Q : Int32 → II → Prop} (h : wp_X4_hasSpan x1 x2 x3 I Q) : Met l yX4_hasSpan (Cond.code yX4_hasSpan cX4_hasSpan 4 (some .boolean) :: lwT) rmX4_hasSpan (va_Pc [.ref (E.2.1 297), .int x1, .int x2, .int x3] (PU E I)) (va_Qi Q (BU E) E.2.2.2.1) 0 0 E.2.2.2.1 :=
  ofWalk [.ref (E.2.1 297), .int x1, .int x2, .int x3] (by decide) tw_c_X4_hasSpan (Nat.le_of_ble_eq_true rfl) (fun p e s m below meth c ls X hp hl => w_X4_hasSpan_0 X _ _ _ _ _ _ _ h hp hl)
abbrev rmX4_itemAt : Room := { frames := 2, cells := 0, slots := 0, locals := 43 }
theorem vf_X4_itemAt : VF yX4_itemAt RX4 cX4_itemAt 3 (some .int) 2 := ⟨tw_in_X4, tw_im_X4_itemAt, tw_se_X4_itemAt, tw_c_X4_itemAt, by decide, by decide, by decide +kernel⟩
def wp_X4_itemAt (x1 : Int32) (x2 : Int32) (I : II) (Q : Int32 → II → Prop) : Prop := (wp_X4_hasSpan x1 x2 (nI 1) I (fun r2 I1 => ((r2 = 0 → (Q (-nI 1000000) I1)) ∧ (¬ r2 = 0 → (vp_in ((x1 * (nI 40)) + x2) 320 ∧ (Q (I1 300 ((x1 * (nI 40)) + x2).toNatClampNeg) I1))))))
set_option maxHeartbeats 4000000 in
set_option maxRecDepth 100000 in
theorem w_X4_itemAt_0 {E : EE} {p : Program} {l : Launch} {e : Env} {s : State} {m : MethodId} {args : Array Value} {below : List Frame} {meth : Method} {c : Code} {Q : Int32 → II → Prop} (X : CX E p s m args meth c cX4_itemAt 3 (some .int) RX4) : ∀ (x1 : Int32) (x2 : Int32) (I : II) (H : Heap) (locs : List Loc) (ls : Array Slot), wp_X4_itemAt x1 x2 I Q → PP E s H locs I → lv_has ls 3 [(0, .ref (E.2.1 297)), (1, .int x1), (2, .int x2)] → W p l e rmX4_itemAt s m args below meth c H locs 0 0 (MQ below (va_Qi Q (BU E) E.2.2.2.1) args s 0 0 E.2.2.2.1) (F0 m 0 ls []) := by
  obtain ⟨⟨hx, hb, hml, hown, hts⟩, hr, hlk, hK, hST, hN⟩ := id X
  intro x1 x2 I H locs ls h hp hl
  unfold wp_X4_itemAt at h
  refine lv_aload_n hx hb dX4_itemAt_0 rfl (lv_at hl 0 rfl) ?_
  refine lv_iload_n hx hb dX4_itemAt_1 rfl (lv_at hl 1 rfl) ?_
  refine lv_iload_n hx hb dX4_itemAt_2 rfl (lv_at hl 2 rfl) ?_
  refine lv_iconst (v := (nI 1)) hx hb dX4_itemAt_3 (by decide) ?_
  refine ki (kV (As := [.int x1, .int x2, .int (nI 1)]) (rest := []) X hp (C_X4_hasSpan  h) tw_ml_X4_29 vf_X4_hasSpan ⟨rfl, rfl, Nat.le_of_ble_eq_true rfl, Nat.le_of_ble_eq_true rfl⟩ (pr_rcv X hp (k := 297) (by decide) (ob_297 _) (q := (RX4, TX4, 3)) rfl) rfl hl.1 rfl (Nat.le_of_ble_eq_true rfl) dX4_itemAt_4) hp (fun r2 I1 H locs h hp => ?_)
  refine lv_if_eq (tgt := 24) hx hb dX4_itemAt_7 (by decide) (fun c3 => ?_) (fun c3 => ?_)
  · have h := h.1 c3
    refine lv_ldc (v := (-nI 1000000)) hx hb hown (hts _ tw_k_X4_9) dX4_itemAt_24 ?_
    exact rt_i X hp h dX4_itemAt_26
  · have h := h.2 c3
    refine lv_aload_n hx hb dX4_itemAt_10 rfl (lv_at hl 0 rfl) ?_
    refine f_X4_19 X hp dX4_itemAt_11 ?_
    refine lv_iload_n hx hb dX4_itemAt_14 rfl (lv_at hl 1 rfl) ?_
    refine lv_bipush (v := (nI 40)) hx hb dX4_itemAt_15 (by decide) ?_
    refine lv_imul hx hb dX4_itemAt_17 ?_
    refine lv_iload_n hx hb dX4_itemAt_18 rfl (lv_at hl 2 rfl) ?_
    refine lv_iadd hx hb dX4_itemAt_19 ?_
    have hv4 := h.1
    have h := h.2
    refine al_i X hp ar_s300 hv4 dX4_itemAt_20 ?_
    refine lv_goto (tgt := 26) hx hb dX4_itemAt_21 (by decide) ?_
    exact rt_i X hp h dX4_itemAt_26
set_option maxRecDepth 100000 in
theorem C_X4_itemAt {E : EE} {l : Launch} {x1 : Int32} {x2 : Int32} {I : II} {Q : Int32 → II → Prop} (h : wp_X4_itemAt x1 x2 I Q) : Met l yX4_itemAt (Cond.code yX4_itemAt cX4_itemAt 3 (some .int) :: lwT) rmX4_itemAt (va_Pc [.ref (E.2.1 297), .int x1, .int x2] (PU E I)) (va_Qi Q (BU E) E.2.2.2.1) 0 0 E.2.2.2.1 :=
  ofWalk [.ref (E.2.1 297), .int x1, .int x2] (by decide) tw_c_X4_itemAt (Nat.le_of_ble_eq_true rfl) (fun p e s m below meth c ls X hp hl => w_X4_itemAt_0 X _ _ _ _ _ _ h hp hl)
abbrev rmX4_isMissing : Room := { frames := 1, cells := 0, slots := 0, locals := 20 }
theorem vf_X4_isMissing : VF yX4_isMissing RX4 cX4_isMissing 2 (some .boolean) 1 := ⟨tw_in_X4, tw_im_X4_isMissing, tw_se_X4_isMissing, tw_c_X4_isMissing, by decide, by decide, by decide +kernel⟩
def wp_X4_isMissing_18 (Q : Int32 → II → Prop) (I : II) : Prop := (Q (nI 1) I)
set_option maxHeartbeats 4000000 in
set_option maxRecDepth 100000 in
theorem w_X4_isMissing_18 {E : EE} {p : Program} {l : Launch} {e : Env} {s : State} {m : MethodId} {args : Array Value} {below : List Frame} {meth : Method} {c : Code} {Q : Int32 → II → Prop} (X : CX E p s m args meth c cX4_isMissing 2 (some .boolean) RX4) : ∀ (I : II) (H : Heap) (locs : List Loc) (ls : Array Slot), wp_X4_isMissing_18 Q I → PP E s H locs I → lv_has ls 2 [] → W p l e rmX4_isMissing s m args below meth c H locs 0 0 (MQ below (va_Qi Q (BU E) E.2.2.2.1) args s 0 0 E.2.2.2.1) (F0 m 18 ls []) := by
  obtain ⟨⟨hx, hb, hml, hown, hts⟩, hr, hlk, hK, hST, hN⟩ := id X
  intro I H locs ls h hp hl
  unfold wp_X4_isMissing_18 at h
  refine lv_iconst (v := (nI 1)) hx hb dX4_isMissing_18 (by decide) ?_
  refine lv_goto (tgt := 23) hx hb dX4_isMissing_19 (by decide) ?_
  exact rt_z X hp ⟨Or.inr rfl, h⟩ dX4_isMissing_23
def wp_X4_isMissing (x1 : Int32) (I : II) (Q : Int32 → II → Prop) : Prop := (wp_X7_isRow x1 I (fun r2 I1 => ((r2 = 0 → (wp_X4_isMissing_18 Q I1)) ∧ (¬ r2 = 0 → (vp_in x1 8 ∧ ((¬ (I1 298 x1.toNatClampNeg) = (-nI 1000000) → (Q (nI 0) I1)) ∧ ((I1 298 x1.toNatClampNeg) = (-nI 1000000) → (wp_X4_isMissing_18 Q I1))))))))
set_option maxHeartbeats 4000000 in
set_option maxRecDepth 100000 in
theorem w_X4_isMissing_0 {E : EE} {p : Program} {l : Launch} {e : Env} {s : State} {m : MethodId} {args : Array Value} {below : List Frame} {meth : Method} {c : Code} {Q : Int32 → II → Prop} (X : CX E p s m args meth c cX4_isMissing 2 (some .boolean) RX4) : ∀ (x1 : Int32) (I : II) (H : Heap) (locs : List Loc) (ls : Array Slot), wp_X4_isMissing x1 I Q → PP E s H locs I → lv_has ls 2 [(0, .ref (E.2.1 297)), (1, .int x1)] → W p l e rmX4_isMissing s m args below meth c H locs 0 0 (MQ below (va_Qi Q (BU E) E.2.2.2.1) args s 0 0 E.2.2.2.1) (F0 m 0 ls []) := by
  obtain ⟨⟨hx, hb, hml, hown, hts⟩, hr, hlk, hK, hST, hN⟩ := id X
  intro x1 I H locs ls h hp hl
  unfold wp_X4_isMissing at h
  refine lv_iload_n hx hb dX4_isMissing_0 rfl (lv_at hl 1 rfl) ?_
  refine ki (kSN (As := [.int x1]) (rest := []) X hp (C_X7_isRow  h) (List.mem_of_getElem? (i := 9) rfl) sf_X7_isRow ⟨rfl, rfl, Nat.le_of_ble_eq_true rfl, Nat.le_of_ble_eq_true rfl⟩ rfl hl.1 rfl (Nat.le_of_ble_eq_true rfl) dX4_isMissing_1) hp (fun r2 I1 H locs h hp => ?_)
  refine lv_if_eq (tgt := 18) hx hb dX4_isMissing_4 (by decide) (fun c3 => ?_) (fun c3 => ?_)
  · have h := h.1 c3
    exact w_X4_isMissing_18 X  _ _ _ _ h hp (lv_sub hl [] rfl)
  · have h := h.2 c3
    refine lv_aload_n hx hb dX4_isMissing_7 rfl (lv_at hl 0 rfl) ?_
    refine f_X4_10 X hp dX4_isMissing_8 ?_
    refine lv_iload_n hx hb dX4_isMissing_11 rfl (lv_at hl 1 rfl) ?_
    have hv4 := h.1
    have h := h.2
    refine al_i X hp ar_s298 hv4 dX4_isMissing_12 ?_
    refine lv_ldc (v := (-nI 1000000)) hx hb hown (hts _ tw_k_X4_9) dX4_isMissing_13 ?_
    refine lv_icmp_ne (tgt := 22) hx hb dX4_isMissing_15 (by decide) (fun c5 => ?_) (fun c5 => ?_)
    · have h := h.1 c5
      refine lv_iconst (v := (nI 0)) hx hb dX4_isMissing_22 (by decide) ?_
      exact rt_z X hp ⟨Or.inl rfl, h⟩ dX4_isMissing_23
    · have h := h.2 c5
      exact w_X4_isMissing_18 X  _ _ _ _ h hp (lv_sub hl [] rfl)
set_option maxRecDepth 100000 in
theorem C_X4_isMissing {E : EE} {l : Launch} {x1 : Int32} {I : II} {Q : Int32 → II → Prop} (h : wp_X4_isMissing x1 I Q) : Met l yX4_isMissing (Cond.code yX4_isMissing cX4_isMissing 2 (some .boolean) :: lwT) rmX4_isMissing (va_Pc [.ref (E.2.1 297), .int x1] (PU E I)) (va_Qi Q (BU E) E.2.2.2.1) 0 0 E.2.2.2.1 :=
  ofWalk [.ref (E.2.1 297), .int x1] (by decide) tw_c_X4_isMissing (Nat.le_of_ble_eq_true rfl) (fun p e s m below meth c ls X hp hl => w_X4_isMissing_0 X _ _ _ _ _ h hp hl)
abbrev rmX4_laneOf : Room := { frames := 1, cells := 0, slots := 0, locals := 20 }
theorem vf_X4_laneOf : VF yX4_laneOf RX4 cX4_laneOf 2 (some .int) 1 := ⟨tw_in_X4, tw_im_X4_laneOf, tw_se_X4_laneOf, tw_c_X4_laneOf, by decide, by decide, by decide +kernel⟩
def wp_X4_laneOf (x1 : Int32) (I : II) (Q : Int32 → II → Prop) : Prop := (wp_X7_isRow x1 I (fun r2 I1 => ((r2 = 0 → (Q (-nI 1000000) I1)) ∧ (¬ r2 = 0 → (vp_in x1 8 ∧ (Q (I1 298 x1.toNatClampNeg) I1))))))
set_option maxHeartbeats 4000000 in
set_option maxRecDepth 100000 in
theorem w_X4_laneOf_0 {E : EE} {p : Program} {l : Launch} {e : Env} {s : State} {m : MethodId} {args : Array Value} {below : List Frame} {meth : Method} {c : Code} {Q : Int32 → II → Prop} (X : CX E p s m args meth c cX4_laneOf 2 (some .int) RX4) : ∀ (x1 : Int32) (I : II) (H : Heap) (locs : List Loc) (ls : Array Slot), wp_X4_laneOf x1 I Q → PP E s H locs I → lv_has ls 2 [(0, .ref (E.2.1 297)), (1, .int x1)] → W p l e rmX4_laneOf s m args below meth c H locs 0 0 (MQ below (va_Qi Q (BU E) E.2.2.2.1) args s 0 0 E.2.2.2.1) (F0 m 0 ls []) := by
  obtain ⟨⟨hx, hb, hml, hown, hts⟩, hr, hlk, hK, hST, hN⟩ := id X
  intro x1 I H locs ls h hp hl
  unfold wp_X4_laneOf at h
  refine lv_iload_n hx hb dX4_laneOf_0 rfl (lv_at hl 1 rfl) ?_
  refine ki (kSN (As := [.int x1]) (rest := []) X hp (C_X7_isRow  h) (List.mem_of_getElem? (i := 9) rfl) sf_X7_isRow ⟨rfl, rfl, Nat.le_of_ble_eq_true rfl, Nat.le_of_ble_eq_true rfl⟩ rfl hl.1 rfl (Nat.le_of_ble_eq_true rfl) dX4_laneOf_1) hp (fun r2 I1 H locs h hp => ?_)
  refine lv_if_eq (tgt := 16) hx hb dX4_laneOf_4 (by decide) (fun c3 => ?_) (fun c3 => ?_)
  · have h := h.1 c3
    refine lv_ldc (v := (-nI 1000000)) hx hb hown (hts _ tw_k_X4_9) dX4_laneOf_16 ?_
    exact rt_i X hp h dX4_laneOf_18
  · have h := h.2 c3
    refine lv_aload_n hx hb dX4_laneOf_7 rfl (lv_at hl 0 rfl) ?_
    refine f_X4_10 X hp dX4_laneOf_8 ?_
    refine lv_iload_n hx hb dX4_laneOf_11 rfl (lv_at hl 1 rfl) ?_
    have hv4 := h.1
    have h := h.2
    refine al_i X hp ar_s298 hv4 dX4_laneOf_12 ?_
    refine lv_goto (tgt := 18) hx hb dX4_laneOf_13 (by decide) ?_
    exact rt_i X hp h dX4_laneOf_18
set_option maxRecDepth 100000 in
theorem C_X4_laneOf {E : EE} {l : Launch} {x1 : Int32} {I : II} {Q : Int32 → II → Prop} (h : wp_X4_laneOf x1 I Q) : Met l yX4_laneOf (Cond.code yX4_laneOf cX4_laneOf 2 (some .int) :: lwT) rmX4_laneOf (va_Pc [.ref (E.2.1 297), .int x1] (PU E I)) (va_Qi Q (BU E) E.2.2.2.1) 0 0 E.2.2.2.1 :=
  ofWalk [.ref (E.2.1 297), .int x1] (by decide) tw_c_X4_laneOf (Nat.le_of_ble_eq_true rfl) (fun p e s m below meth c ls X hp hl => w_X4_laneOf_0 X _ _ _ _ _ h hp hl)
abbrev rmX4_findingOf : Room := { frames := 2, cells := 0, slots := 0, locals := 43 }
theorem vf_X4_findingOf : VF yX4_findingOf RX4 cX4_findingOf 4 (some .int) 3 := ⟨tw_in_X4, tw_im_X4_findingOf, tw_se_X4_findingOf, tw_c_X4_findingOf, by decide, by decide, by decide +kernel⟩
def wp_X4_findingOf (x1 : Int32) (x2 : Int32) (x3 : Int32) (I : II) (Q : Int32 → II → Prop) : Prop := (wp_X4_isMissing x1 I (fun r2 I1 => ((r2 = 0 → (wp_X4_hasSpan x1 x2 x3 I1 (fun r5 I4 => ((r5 = 0 → (Q (nI 2) I4)) ∧ (¬ r5 = 0 → (Q (nI 0) I4)))))) ∧ (¬ r2 = 0 → (Q (nI 1) I1)))))
set_option maxHeartbeats 4000000 in
set_option maxRecDepth 100000 in
theorem w_X4_findingOf_0 {E : EE} {p : Program} {l : Launch} {e : Env} {s : State} {m : MethodId} {args : Array Value} {below : List Frame} {meth : Method} {c : Code} {Q : Int32 → II → Prop} (X : CX E p s m args meth c cX4_findingOf 4 (some .int) RX4) : ∀ (x1 : Int32) (x2 : Int32) (x3 : Int32) (I : II) (H : Heap) (locs : List Loc) (ls : Array Slot), wp_X4_findingOf x1 x2 x3 I Q → PP E s H locs I → lv_has ls 4 [(0, .ref (E.2.1 297)), (1, .int x1), (2, .int x2), (3, .int x3)] → W p l e rmX4_findingOf s m args below meth c H locs 0 0 (MQ below (va_Qi Q (BU E) E.2.2.2.1) args s 0 0 E.2.2.2.1) (F0 m 0 ls []) := by
  obtain ⟨⟨hx, hb, hml, hown, hts⟩, hr, hlk, hK, hST, hN⟩ := id X
  intro x1 x2 x3 I H locs ls h hp hl
  unfold wp_X4_findingOf at h
  refine lv_aload_n hx hb dX4_findingOf_0 rfl (lv_at hl 0 rfl) ?_
  refine lv_iload_n hx hb dX4_findingOf_1 rfl (lv_at hl 1 rfl) ?_
  refine ki (kV (As := [.int x1]) (rest := []) X hp (C_X4_isMissing  h) tw_ml_X4_26 vf_X4_isMissing ⟨rfl, rfl, Nat.le_of_ble_eq_true rfl, Nat.le_of_ble_eq_true rfl⟩ (pr_rcv X hp (k := 297) (by decide) (ob_297 _) (q := (RX4, TX4, 3)) rfl) rfl hl.1 rfl (Nat.le_of_ble_eq_true rfl) dX4_findingOf_2) hp (fun r2 I1 H locs h hp => ?_)
  refine lv_if_eq (tgt := 10) hx hb dX4_findingOf_5 (by decide) (fun c3 => ?_) (fun c3 => ?_)
  · have h := h.1 c3
    refine lv_aload_n hx hb dX4_findingOf_10 rfl (lv_at hl 0 rfl) ?_
    refine lv_iload_n hx hb dX4_findingOf_11 rfl (lv_at hl 1 rfl) ?_
    refine lv_iload_n hx hb dX4_findingOf_12 rfl (lv_at hl 2 rfl) ?_
    refine lv_iload_n hx hb dX4_findingOf_13 rfl (lv_at hl 3 rfl) ?_
    refine ki (kV (As := [.int x1, .int x2, .int x3]) (rest := []) X hp (C_X4_hasSpan  h) tw_ml_X4_29 vf_X4_hasSpan ⟨rfl, rfl, Nat.le_of_ble_eq_true rfl, Nat.le_of_ble_eq_true rfl⟩ (pr_rcv X hp (k := 297) (by decide) (ob_297 _) (q := (RX4, TX4, 3)) rfl) rfl hl.1 rfl (Nat.le_of_ble_eq_true rfl) dX4_findingOf_14) hp (fun r5 I4 H locs h hp => ?_)
    refine lv_if_eq (tgt := 24) hx hb dX4_findingOf_17 (by decide) (fun c6 => ?_) (fun c6 => ?_)
    · have h := h.1 c6
      refine lv_iconst (v := (nI 2)) hx hb dX4_findingOf_24 (by decide) ?_
      exact rt_i X hp h dX4_findingOf_25
    · have h := h.2 c6
      refine lv_iconst (v := (nI 0)) hx hb dX4_findingOf_20 (by decide) ?_
      refine lv_goto (tgt := 25) hx hb dX4_findingOf_21 (by decide) ?_
      exact rt_i X hp h dX4_findingOf_25
  · have h := h.2 c3
    refine lv_iconst (v := (nI 1)) hx hb dX4_findingOf_8 (by decide) ?_
    exact rt_i X hp h dX4_findingOf_9
set_option maxRecDepth 100000 in
theorem C_X4_findingOf {E : EE} {l : Launch} {x1 : Int32} {x2 : Int32} {x3 : Int32} {I : II} {Q : Int32 → II → Prop} (h : wp_X4_findingOf x1 x2 x3 I Q) : Met l yX4_findingOf (Cond.code yX4_findingOf cX4_findingOf 4 (some .int) :: lwT) rmX4_findingOf (va_Pc [.ref (E.2.1 297), .int x1, .int x2, .int x3] (PU E I)) (va_Qi Q (BU E) E.2.2.2.1) 0 0 E.2.2.2.1 :=
  ofWalk [.ref (E.2.1 297), .int x1, .int x2, .int x3] (by decide) tw_c_X4_findingOf (Nat.le_of_ble_eq_true rfl) (fun p e s m below meth c ls X hp hl => w_X4_findingOf_0 X _ _ _ _ _ _ _ h hp hl)
abbrev rmX4_make : Room := { frames := 1, cells := 0, slots := 0, locals := 20 }
theorem vf_X4_make : VF yX4_make RX4 cX4_make 5 none 3 := ⟨tw_in_X4, tw_im_X4_make, tw_se_X4_make, tw_c_X4_make, by decide, by decide, by decide +kernel⟩
def wp_X4_make_35 (Q : II → Prop) (k60 : II → Prop) : Nat → Int32 → Int32 → Int32 → II → Prop
  | 0, _, _, _, _ => False
  | n + 1, x1, x3, x4, I => ((x3 ≤ x4 → (k60 I)) ∧ (¬ x3 ≤ x4 → (vp_in ((x1 * (nI 40)) + x4) 320 ∧ ∀ I3 : II, I3 = su I 300 ((x1 * (nI 40)) + x4).toNatClampNeg (nI 0) → (wp_X4_make_35 Q k60 n x1 x3 (x4 + (nI 1)) I3))))
set_option maxHeartbeats 4000000 in
set_option maxRecDepth 100000 in
theorem w_X4_make_35 {E : EE} {p : Program} {l : Launch} {e : Env} {s : State} {m : MethodId} {args : Array Value} {below : List Frame} {meth : Method} {c : Code} {Q : II → Prop} {k60 : II → Prop} (X : CX E p s m args meth c cX4_make 5 none RX4) (K60 : ∀ (I : II) (H : Heap) (locs : List Loc) (ls : Array Slot), k60 I → PP E s H locs I → lv_has ls 5 [] → W p l e rmX4_make s m args below meth c H locs 0 0 (MQ below (va_Qv Q (BU E) E.2.2.2.1) args s 0 0 E.2.2.2.1) (F0 m 60 ls [])) : ∀ (n : Nat) (x1 : Int32) (x3 : Int32) (x4 : Int32) (I : II) (H : Heap) (locs : List Loc) (ls : Array Slot), wp_X4_make_35 Q k60 n x1 x3 x4 I → PP E s H locs I → lv_has ls 5 [(0, .ref (E.2.1 297)), (1, .int x1), (3, .int x3), (4, .int x4)] → W p l e rmX4_make s m args below meth c H locs 0 0 (MQ below (va_Qv Q (BU E) E.2.2.2.1) args s 0 0 E.2.2.2.1) (F0 m 35 ls []) := by
  obtain ⟨⟨hx, hb, hml, hown, hts⟩, hr, hlk, hK, hST, hN⟩ := id X
  intro n
  induction n with
  | zero =>
    intro x1 x3 x4 I H locs ls h hp hl
    exact False.elim h
  | succ n ih =>
    intro x1 x3 x4 I H locs ls h hp hl
    rw [wp_X4_make_35.eq_2] at h
    refine lv_iload hx hb dX4_make_35 (lv_at hl 3 rfl) ?_
    refine lv_iload_n hx hb dX4_make_37 rfl (lv_at hl 2 rfl) ?_
    refine lv_icmp_ge (tgt := 60) hx hb dX4_make_38 (by decide) (fun c1 => ?_) (fun c1 => ?_)
    · have h := h.1 c1
      exact K60 _ _ _ _ h hp (lv_sub hl [] rfl)
    · have h := h.2 c1
      refine lv_aload_n hx hb dX4_make_41 rfl (lv_at hl 0 rfl) ?_
      refine f_X4_19 X hp dX4_make_42 ?_
      refine lv_iload_n hx hb dX4_make_45 rfl (lv_at hl 1 rfl) ?_
      refine lv_bipush (v := (nI 40)) hx hb dX4_make_46 (by decide) ?_
      refine lv_imul hx hb dX4_make_48 ?_
      refine lv_iload hx hb dX4_make_49 (lv_at hl 3 rfl) ?_
      refine lv_iadd hx hb dX4_make_51 ?_
      refine lv_iconst (v := (nI 0)) hx hb dX4_make_52 (by decide) ?_
      have hv2 := h.1
      have h := h.2
      refine as_i X hp ar_s300 hv2 dX4_make_53 (fun H locs hp => ?_)
      obtain ⟨I3, e4⟩ : ∃ y, y = su I 300 ((x1 * (nI 40)) + x4).toNatClampNeg (nI 0) := ⟨_, rfl⟩
      have hp : PP E s H locs I3 := by rw [e4]; exact hp
      have h := h I3 e4
      refine lv_iinc (v := (x4 + (nI 1))) (lv' := [(4, .int (x4 + (nI 1))), (0, .ref (E.2.1 297)), (1, .int x1), (3, .int x3)]) hx hb dX4_make_54 hl (k := 3) rfl rfl (by decide) rfl (fun ls hl => ?_)
      refine lv_goto (tgt := 35) hx hb dX4_make_57 (by decide) ?_
      exact ih _ _ _ _ _ _ _ h hp (lv_sub hl [1, 2, 3, 0] rfl)
def wp_X4_make (x1 : Int32) (x2 : Int32) (x3 : Int32) (I : II) (Q : II → Prop) : Prop := (wp_X7_isRow x1 I (fun r2 I1 => ((r2 = 0 → (Q I1)) ∧ (¬ r2 = 0 → ((x3 < 0 → (Q I1)) ∧ (¬ x3 < 0 → ((x3 ≤ (nI 40) → (vp_in x1 8 ∧ ∀ I7 : II, I7 = su I1 298 x1.toNatClampNeg x2 → (vp_in x1 8 ∧ ∀ I10 : II, I10 = su I7 299 x1.toNatClampNeg x3 → (∃ n62, wp_X4_make_35 Q (fun I => (Q I)) n62 x1 x3 (nI 0) I10)))) ∧ (¬ x3 ≤ (nI 40) → (Q I1)))))))))
set_option maxHeartbeats 4000000 in
set_option maxRecDepth 100000 in
theorem w_X4_make_0 {E : EE} {p : Program} {l : Launch} {e : Env} {s : State} {m : MethodId} {args : Array Value} {below : List Frame} {meth : Method} {c : Code} {Q : II → Prop} (X : CX E p s m args meth c cX4_make 5 none RX4) : ∀ (x1 : Int32) (x2 : Int32) (x3 : Int32) (I : II) (H : Heap) (locs : List Loc) (ls : Array Slot), wp_X4_make x1 x2 x3 I Q → PP E s H locs I → lv_has ls 5 [(0, .ref (E.2.1 297)), (1, .int x1), (2, .int x2), (3, .int x3)] → W p l e rmX4_make s m args below meth c H locs 0 0 (MQ below (va_Qv Q (BU E) E.2.2.2.1) args s 0 0 E.2.2.2.1) (F0 m 0 ls []) := by
  obtain ⟨⟨hx, hb, hml, hown, hts⟩, hr, hlk, hK, hST, hN⟩ := id X
  intro x1 x2 x3 I H locs ls h hp hl
  unfold wp_X4_make at h
  refine lv_iload_n hx hb dX4_make_0 rfl (lv_at hl 1 rfl) ?_
  refine ki (kSN (As := [.int x1]) (rest := []) X hp (C_X7_isRow  h) (List.mem_of_getElem? (i := 9) rfl) sf_X7_isRow ⟨rfl, rfl, Nat.le_of_ble_eq_true rfl, Nat.le_of_ble_eq_true rfl⟩ rfl hl.1 rfl (Nat.le_of_ble_eq_true rfl) dX4_make_1) hp (fun r2 I1 H locs h hp => ?_)
  refine lv_if_eq (tgt := 17) hx hb dX4_make_4 (by decide) (fun c3 => ?_) (fun c3 => ?_)
  · have h := h.1 c3
    exact rt_v X hp h dX4_make_17
  · have h := h.2 c3
    refine lv_iload_n hx hb dX4_make_7 rfl (lv_at hl 3 rfl) ?_
    refine lv_if_lt (tgt := 17) hx hb dX4_make_8 (by decide) (fun c4 => ?_) (fun c4 => ?_)
    · have h := h.1 c4
      exact rt_v X hp h dX4_make_17
    · have h := h.2 c4
      refine lv_iload_n hx hb dX4_make_11 rfl (lv_at hl 3 rfl) ?_
      refine lv_bipush (v := (nI 40)) hx hb dX4_make_12 (by decide) ?_
      refine lv_icmp_le (tgt := 18) hx hb dX4_make_14 (by decide) (fun c5 => ?_) (fun c5 => ?_)
      · have h := h.1 c5
        refine lv_aload_n hx hb dX4_make_18 rfl (lv_at hl 0 rfl) ?_
        refine f_X4_10 X hp dX4_make_19 ?_
        refine lv_iload_n hx hb dX4_make_22 rfl (lv_at hl 1 rfl) ?_
        refine lv_iload_n hx hb dX4_make_23 rfl (lv_at hl 2 rfl) ?_
        have hv6 := h.1
        have h := h.2
        refine as_i X hp ar_s298 hv6 dX4_make_24 (fun H locs hp => ?_)
        obtain ⟨I7, e8⟩ : ∃ y, y = su I1 298 x1.toNatClampNeg x2 := ⟨_, rfl⟩
        have hp : PP E s H locs I7 := by rw [e8]; exact hp
        have h := h I7 e8
        refine lv_aload_n hx hb dX4_make_25 rfl (lv_at hl 0 rfl) ?_
        refine f_X4_16 X hp dX4_make_26 ?_
        refine lv_iload_n hx hb dX4_make_29 rfl (lv_at hl 1 rfl) ?_
        refine lv_iload_n hx hb dX4_make_30 rfl (lv_at hl 3 rfl) ?_
        have hv9 := h.1
        have h := h.2
        refine as_i X hp ar_s299 hv9 dX4_make_31 (fun H locs hp => ?_)
        obtain ⟨I10, e11⟩ : ∃ y, y = su I7 299 x1.toNatClampNeg x3 := ⟨_, rfl⟩
        have hp : PP E s H locs I10 := by rw [e11]; exact hp
        have h := h I10 e11
        refine lv_iconst (v := (nI 0)) hx hb dX4_make_32 (by decide) ?_
        refine lv_istore (lv' := [(4, .int (nI 0)), (0, .ref (E.2.1 297)), (1, .int x1), (2, .int x2), (3, .int x3)]) hx hb dX4_make_33 hl (by decide) rfl (fun ls hl => ?_)
        obtain ⟨n62, h⟩ := h
        refine w_X4_make_35 X ?_ n62 _ _ _ _ _ _ _ h hp (lv_sub hl [1, 2, 4, 0] rfl)
        · intro I H locs ls h hp hl
          exact rt_v X hp h dX4_make_60
      · have h := h.2 c5
        exact rt_v X hp h dX4_make_17
set_option maxRecDepth 100000 in
theorem C_X4_make {E : EE} {l : Launch} {x1 : Int32} {x2 : Int32} {x3 : Int32} {I : II} {Q : II → Prop} (h : wp_X4_make x1 x2 x3 I Q) : Met l yX4_make (Cond.code yX4_make cX4_make 5 none :: lwT) rmX4_make (va_Pc [.ref (E.2.1 297), .int x1, .int x2, .int x3] (PU E I)) (va_Qv Q (BU E) E.2.2.2.1) 0 0 E.2.2.2.1 :=
  ofWalk [.ref (E.2.1 297), .int x1, .int x2, .int x3] (by decide) tw_c_X4_make (Nat.le_of_ble_eq_true rfl) (fun p e s m below meth c ls X hp hl => w_X4_make_0 X _ _ _ _ _ _ _ h hp hl)
abbrev rmX4_put : Room := { frames := 2, cells := 0, slots := 0, locals := 43 }
theorem vf_X4_put : VF yX4_put RX4 cX4_put 5 (some .int) 3 := ⟨tw_in_X4, tw_im_X4_put, tw_se_X4_put, tw_c_X4_put, by decide, by decide, by decide +kernel⟩
def wp_X4_put_45 (Q : Int32 → II → Prop) (x1 : Int32) (x2 : Int32) (x4 : Int32) (I : II) : Prop := (vp_in ((x1 * (nI 40)) + x2) 320 ∧ ∀ I2 : II, I2 = su I 300 ((x1 * (nI 40)) + x2).toNatClampNeg x4 → (Q x4 I2))
set_option maxHeartbeats 4000000 in
set_option maxRecDepth 100000 in
theorem w_X4_put_45 {E : EE} {p : Program} {l : Launch} {e : Env} {s : State} {m : MethodId} {args : Array Value} {below : List Frame} {meth : Method} {c : Code} {Q : Int32 → II → Prop} (X : CX E p s m args meth c cX4_put 5 (some .int) RX4) : ∀ (x1 : Int32) (x2 : Int32) (x4 : Int32) (I : II) (H : Heap) (locs : List Loc) (ls : Array Slot), wp_X4_put_45 Q x1 x2 x4 I → PP E s H locs I → lv_has ls 5 [(0, .ref (E.2.1 297)), (1, .int x1), (2, .int x2), (4, .int x4)] → W p l e rmX4_put s m args below meth c H locs 0 0 (MQ below (va_Qi Q (BU E) E.2.2.2.1) args s 0 0 E.2.2.2.1) (F0 m 45 ls []) := by
  obtain ⟨⟨hx, hb, hml, hown, hts⟩, hr, hlk, hK, hST, hN⟩ := id X
  intro x1 x2 x4 I H locs ls h hp hl
  unfold wp_X4_put_45 at h
  refine lv_aload_n hx hb dX4_put_45 rfl (lv_at hl 0 rfl) ?_
  refine f_X4_19 X hp dX4_put_46 ?_
  refine lv_iload_n hx hb dX4_put_49 rfl (lv_at hl 1 rfl) ?_
  refine lv_bipush (v := (nI 40)) hx hb dX4_put_50 (by decide) ?_
  refine lv_imul hx hb dX4_put_52 ?_
  refine lv_iload_n hx hb dX4_put_53 rfl (lv_at hl 2 rfl) ?_
  refine lv_iadd hx hb dX4_put_54 ?_
  refine lv_iload hx hb dX4_put_55 (lv_at hl 3 rfl) ?_
  have hv1 := h.1
  have h := h.2
  refine as_i X hp ar_s300 hv1 dX4_put_57 (fun H locs hp => ?_)
  obtain ⟨I2, e3⟩ : ∃ y, y = su I 300 ((x1 * (nI 40)) + x2).toNatClampNeg x4 := ⟨_, rfl⟩
  have hp : PP E s H locs I2 := by rw [e3]; exact hp
  have h := h I2 e3
  refine lv_iload hx hb dX4_put_58 (lv_at hl 3 rfl) ?_
  exact rt_i X hp h dX4_put_60
def wp_X4_put (x1 : Int32) (x2 : Int32) (x3 : Int32) (I : II) (Q : Int32 → II → Prop) : Prop := (wp_X4_hasSpan x1 x2 (nI 1) I (fun r2 I1 => ((¬ r2 = 0 → (vp_in x1 8 ∧ ((¬ (I1 298 x1.toNatClampNeg) = 0 → (vp_in x1 8 ∧ ((¬ (I1 298 x1.toNatClampNeg) = (nI 1) → (wp_X4_put_45 Q x1 x2 x3 I1)) ∧ ((I1 298 x1.toNatClampNeg) = (nI 1) → (wp_X4_put_45 Q x1 x2 x3.toInt16.toInt32 I1))))) ∧ ((I1 298 x1.toNatClampNeg) = 0 → (wp_X4_put_45 Q x1 x2 x3.toInt8.toInt32 I1))))) ∧ (r2 = 0 → (Q (nI 0) I1)))))
set_option maxHeartbeats 4000000 in
set_option maxRecDepth 100000 in
theorem w_X4_put_0 {E : EE} {p : Program} {l : Launch} {e : Env} {s : State} {m : MethodId} {args : Array Value} {below : List Frame} {meth : Method} {c : Code} {Q : Int32 → II → Prop} (X : CX E p s m args meth c cX4_put 5 (some .int) RX4) : ∀ (x1 : Int32) (x2 : Int32) (x3 : Int32) (I : II) (H : Heap) (locs : List Loc) (ls : Array Slot), wp_X4_put x1 x2 x3 I Q → PP E s H locs I → lv_has ls 5 [(0, .ref (E.2.1 297)), (1, .int x1), (2, .int x2), (3, .int x3)] → W p l e rmX4_put s m args below meth c H locs 0 0 (MQ below (va_Qi Q (BU E) E.2.2.2.1) args s 0 0 E.2.2.2.1) (F0 m 0 ls []) := by
  obtain ⟨⟨hx, hb, hml, hown, hts⟩, hr, hlk, hK, hST, hN⟩ := id X
  intro x1 x2 x3 I H locs ls h hp hl
  unfold wp_X4_put at h
  refine lv_aload_n hx hb dX4_put_0 rfl (lv_at hl 0 rfl) ?_
  refine lv_iload_n hx hb dX4_put_1 rfl (lv_at hl 1 rfl) ?_
  refine lv_iload_n hx hb dX4_put_2 rfl (lv_at hl 2 rfl) ?_
  refine lv_iconst (v := (nI 1)) hx hb dX4_put_3 (by decide) ?_
  refine ki (kV (As := [.int x1, .int x2, .int (nI 1)]) (rest := []) X hp (C_X4_hasSpan  h) tw_ml_X4_29 vf_X4_hasSpan ⟨rfl, rfl, Nat.le_of_ble_eq_true rfl, Nat.le_of_ble_eq_true rfl⟩ (pr_rcv X hp (k := 297) (by decide) (ob_297 _) (q := (RX4, TX4, 3)) rfl) rfl hl.1 rfl (Nat.le_of_ble_eq_true rfl) dX4_put_4) hp (fun r2 I1 H locs h hp => ?_)
  refine lv_if_ne (tgt := 12) hx hb dX4_put_7 (by decide) (fun c3 => ?_) (fun c3 => ?_)
  · have h := h.1 c3
    refine lv_iload_n hx hb dX4_put_12 rfl (lv_at hl 3 rfl) ?_
    refine lv_istore (lv' := [(4, .int x3), (0, .ref (E.2.1 297)), (1, .int x1), (2, .int x2), (3, .int x3)]) hx hb dX4_put_13 hl (by decide) rfl (fun ls hl => ?_)
    refine lv_aload_n hx hb dX4_put_15 rfl (lv_at hl 1 rfl) ?_
    refine f_X4_10 X hp dX4_put_16 ?_
    refine lv_iload_n hx hb dX4_put_19 rfl (lv_at hl 2 rfl) ?_
    have hv4 := h.1
    have h := h.2
    refine al_i X hp ar_s298 hv4 dX4_put_20 ?_
    refine lv_if_ne (tgt := 31) hx hb dX4_put_21 (by decide) (fun c5 => ?_) (fun c5 => ?_)
    · have h := h.1 c5
      refine lv_aload_n hx hb dX4_put_31 rfl (lv_at hl 1 rfl) ?_
      refine f_X4_10 X hp dX4_put_32 ?_
      refine lv_iload_n hx hb dX4_put_35 rfl (lv_at hl 2 rfl) ?_
      have hv6 := h.1
      have h := h.2
      refine al_i X hp ar_s298 hv6 dX4_put_36 ?_
      refine lv_iconst (v := (nI 1)) hx hb dX4_put_37 (by decide) ?_
      refine lv_icmp_ne (tgt := 45) hx hb dX4_put_38 (by decide) (fun c7 => ?_) (fun c7 => ?_)
      · have h := h.1 c7
        exact w_X4_put_45 X  _ _ _ _ _ _ _ h hp (lv_sub hl [1, 2, 3, 0] rfl)
      · have h := h.2 c7
        refine lv_iload_n hx hb dX4_put_41 rfl (lv_at hl 4 rfl) ?_
        refine lv_i2s (v := x3.toInt16.toInt32) hx hb dX4_put_42 rfl ?_
        refine lv_istore (lv' := [(4, .int x3.toInt16.toInt32), (0, .ref (E.2.1 297)), (1, .int x1), (2, .int x2), (3, .int x3)]) hx hb dX4_put_43 hl (by decide) rfl (fun ls hl => ?_)
        exact w_X4_put_45 X  _ _ _ _ _ _ _ h hp (lv_sub hl [1, 2, 3, 0] rfl)
    · have h := h.2 c5
      refine lv_iload_n hx hb dX4_put_24 rfl (lv_at hl 4 rfl) ?_
      refine lv_i2b (v := x3.toInt8.toInt32) hx hb dX4_put_25 rfl ?_
      refine lv_istore (lv' := [(4, .int x3.toInt8.toInt32), (0, .ref (E.2.1 297)), (1, .int x1), (2, .int x2), (3, .int x3)]) hx hb dX4_put_26 hl (by decide) rfl (fun ls hl => ?_)
      refine lv_goto (tgt := 45) hx hb dX4_put_28 (by decide) ?_
      exact w_X4_put_45 X  _ _ _ _ _ _ _ h hp (lv_sub hl [1, 2, 3, 0] rfl)
  · have h := h.2 c3
    refine lv_iconst (v := (nI 0)) hx hb dX4_put_10 (by decide) ?_
    exact rt_i X hp h dX4_put_11
set_option maxRecDepth 100000 in
theorem C_X4_put {E : EE} {l : Launch} {x1 : Int32} {x2 : Int32} {x3 : Int32} {I : II} {Q : Int32 → II → Prop} (h : wp_X4_put x1 x2 x3 I Q) : Met l yX4_put (Cond.code yX4_put cX4_put 5 (some .int) :: lwT) rmX4_put (va_Pc [.ref (E.2.1 297), .int x1, .int x2, .int x3] (PU E I)) (va_Qi Q (BU E) E.2.2.2.1) 0 0 E.2.2.2.1 :=
  ofWalk [.ref (E.2.1 297), .int x1, .int x2, .int x3] (by decide) tw_c_X4_put (Nat.le_of_ble_eq_true rfl) (fun p e s m below meth c ls X hp hl => w_X4_put_0 X _ _ _ _ _ _ _ h hp hl)
abbrev rmX4_move : Room := { frames := 2, cells := 0, slots := 0, locals := 43 }
theorem vf_X4_move : VF yX4_move RX4 cX4_move 6 none 5 := ⟨tw_in_X4, tw_im_X4_move, tw_se_X4_move, tw_c_X4_move, by decide, by decide, by decide +kernel⟩
def wp_X4_move (x1 : Int32) (x2 : Int32) (x3 : Int32) (x4 : Int32) (x5 : Int32) (I : II) (Q : II → Prop) : Prop := (wp_X4_hasSpan x1 x2 x5 I (fun r2 I1 => ((r2 = 0 → (Q I1)) ∧ (¬ r2 = 0 → (wp_X4_hasSpan x3 x4 x5 I1 (fun r5 I4 => ((r5 = 0 → (Q I4)) ∧ (¬ r5 = 0 → (¬ ((x1 * (nI 40)) + x2) < 0 ∧ ¬ ((x3 * (nI 40)) + x4) < 0 ∧ ¬ x5 < 0 ∧ ((x1 * (nI 40)) + x2).toNatClampNeg + x5.toNatClampNeg ≤ 320 ∧ ((x3 * (nI 40)) + x4).toNatClampNeg + x5.toNatClampNeg ≤ 320 ∧ ∀ I12 : II, I12 = va_up I4 300 (va_cpy (I4 300) (I4 300) ((x1 * (nI 40)) + x2).toNatClampNeg ((x3 * (nI 40)) + x4).toNatClampNeg x5.toNatClampNeg) → (Q I12))))))))))
set_option maxHeartbeats 4000000 in
set_option maxRecDepth 100000 in
theorem w_X4_move_0 {E : EE} {p : Program} {l : Launch} {e : Env} {s : State} {m : MethodId} {args : Array Value} {below : List Frame} {meth : Method} {c : Code} {Q : II → Prop} (X : CX E p s m args meth c cX4_move 6 none RX4) : ∀ (x1 : Int32) (x2 : Int32) (x3 : Int32) (x4 : Int32) (x5 : Int32) (I : II) (H : Heap) (locs : List Loc) (ls : Array Slot), wp_X4_move x1 x2 x3 x4 x5 I Q → PP E s H locs I → lv_has ls 6 [(0, .ref (E.2.1 297)), (1, .int x1), (2, .int x2), (3, .int x3), (4, .int x4), (5, .int x5)] → W p l e rmX4_move s m args below meth c H locs 0 0 (MQ below (va_Qv Q (BU E) E.2.2.2.1) args s 0 0 E.2.2.2.1) (F0 m 0 ls []) := by
  obtain ⟨⟨hx, hb, hml, hown, hts⟩, hr, hlk, hK, hST, hN⟩ := id X
  intro x1 x2 x3 x4 x5 I H locs ls h hp hl
  unfold wp_X4_move at h
  refine lv_aload_n hx hb dX4_move_0 rfl (lv_at hl 0 rfl) ?_
  refine lv_iload_n hx hb dX4_move_1 rfl (lv_at hl 1 rfl) ?_
  refine lv_iload_n hx hb dX4_move_2 rfl (lv_at hl 2 rfl) ?_
  refine lv_iload hx hb dX4_move_3 (lv_at hl 5 rfl) ?_
  refine ki (kV (As := [.int x1, .int x2, .int x5]) (rest := []) X hp (C_X4_hasSpan  h) tw_ml_X4_29 vf_X4_hasSpan ⟨rfl, rfl, Nat.le_of_ble_eq_true rfl, Nat.le_of_ble_eq_true rfl⟩ (pr_rcv X hp (k := 297) (by decide) (ob_297 _) (q := (RX4, TX4, 3)) rfl) rfl hl.1 rfl (Nat.le_of_ble_eq_true rfl) dX4_move_5) hp (fun r2 I1 H locs h hp => ?_)
  refine lv_if_eq (tgt := 49) hx hb dX4_move_8 (by decide) (fun c3 => ?_) (fun c3 => ?_)
  · have h := h.1 c3
    exact rt_v X hp h dX4_move_49
  · have h := h.2 c3
    refine lv_aload_n hx hb dX4_move_11 rfl (lv_at hl 0 rfl) ?_
    refine lv_iload_n hx hb dX4_move_12 rfl (lv_at hl 3 rfl) ?_
    refine lv_iload hx hb dX4_move_13 (lv_at hl 4 rfl) ?_
    refine lv_iload hx hb dX4_move_15 (lv_at hl 5 rfl) ?_
    refine ki (kV (As := [.int x3, .int x4, .int x5]) (rest := []) X hp (C_X4_hasSpan  h) tw_ml_X4_29 vf_X4_hasSpan ⟨rfl, rfl, Nat.le_of_ble_eq_true rfl, Nat.le_of_ble_eq_true rfl⟩ (pr_rcv X hp (k := 297) (by decide) (ob_297 _) (q := (RX4, TX4, 3)) rfl) rfl hl.1 rfl (Nat.le_of_ble_eq_true rfl) dX4_move_17) hp (fun r5 I4 H locs h hp => ?_)
    refine lv_if_eq (tgt := 49) hx hb dX4_move_20 (by decide) (fun c6 => ?_) (fun c6 => ?_)
    · have h := h.1 c6
      exact rt_v X hp h dX4_move_49
    · have h := h.2 c6
      refine lv_aload_n hx hb dX4_move_23 rfl (lv_at hl 0 rfl) ?_
      refine f_X4_19 X hp dX4_move_24 ?_
      refine lv_iload_n hx hb dX4_move_27 rfl (lv_at hl 1 rfl) ?_
      refine lv_bipush (v := (nI 40)) hx hb dX4_move_28 (by decide) ?_
      refine lv_imul hx hb dX4_move_30 ?_
      refine lv_iload_n hx hb dX4_move_31 rfl (lv_at hl 2 rfl) ?_
      refine lv_iadd hx hb dX4_move_32 ?_
      refine lv_aload_n hx hb dX4_move_33 rfl (lv_at hl 0 rfl) ?_
      refine f_X4_19 X hp dX4_move_34 ?_
      refine lv_iload_n hx hb dX4_move_37 rfl (lv_at hl 3 rfl) ?_
      refine lv_bipush (v := (nI 40)) hx hb dX4_move_38 (by decide) ?_
      refine lv_imul hx hb dX4_move_40 ?_
      refine lv_iload hx hb dX4_move_41 (lv_at hl 4 rfl) ?_
      refine lv_iadd hx hb dX4_move_43 ?_
      refine lv_iload hx hb dX4_move_44 (lv_at hl 5 rfl) ?_
      obtain ⟨hy7, hy8, hy9, hy10, hy11, h⟩ := h
      refine cp_i X hp ar_s300 ar_s300 tw_ml_X4_33 hl.1 hy7 hy8 hy9 hy10 hy11 ⟨Nat.le_of_ble_eq_true rfl, Nat.le_of_ble_eq_true rfl⟩ dX4_move_46 (fun H locs hp => ?_)
      obtain ⟨I12, e13⟩ : ∃ y, y = va_up I4 300 (va_cpy (I4 300) (I4 300) ((x1 * (nI 40)) + x2).toNatClampNeg ((x3 * (nI 40)) + x4).toNatClampNeg x5.toNatClampNeg) := ⟨_, rfl⟩
      have hp : PP E s H locs I12 := by rw [e13]; exact hp
      have h := h I12 e13
      exact rt_v X hp h dX4_move_49
set_option maxRecDepth 100000 in
theorem C_X4_move {E : EE} {l : Launch} {x1 : Int32} {x2 : Int32} {x3 : Int32} {x4 : Int32} {x5 : Int32} {I : II} {Q : II → Prop} (h : wp_X4_move x1 x2 x3 x4 x5 I Q) : Met l yX4_move (Cond.code yX4_move cX4_move 6 none :: lwT) rmX4_move (va_Pc [.ref (E.2.1 297), .int x1, .int x2, .int x3, .int x4, .int x5] (PU E I)) (va_Qv Q (BU E) E.2.2.2.1) 0 0 E.2.2.2.1 :=
  ofWalk [.ref (E.2.1 297), .int x1, .int x2, .int x3, .int x4, .int x5] (by decide) tw_c_X4_move (Nat.le_of_ble_eq_true rfl) (fun p e s m below meth c ls X hp hl => w_X4_move_0 X _ _ _ _ _ _ _ _ _ h hp hl)
abbrev rmX4_remove : Room := { frames := 2, cells := 0, slots := 0, locals := 41 }
theorem vf_X4_remove : VF yX4_remove RX4 cX4_remove 3 (some .int) 1 := ⟨tw_in_X4, tw_im_X4_remove, tw_se_X4_remove, tw_c_X4_remove, by decide, by decide, by decide +kernel⟩
def wp_X4_remove (x1 : Int32) (I : II) (Q : Int32 → II → Prop) : Prop := (wp_X4_isMissing x1 I (fun r2 I1 => ((r2 = 0 → (vp_in x1 8 ∧ (vp_in x1 8 ∧ ∀ I6 : II, I6 = su I1 298 x1.toNatClampNeg (-nI 1000000) → (vp_in x1 8 ∧ ∀ I9 : II, I9 = su I6 299 x1.toNatClampNeg (nI 0) → (Q (I1 299 x1.toNatClampNeg) I9))))) ∧ (¬ r2 = 0 → (Q (nI 0) I1)))))
set_option maxHeartbeats 4000000 in
set_option maxRecDepth 100000 in
theorem w_X4_remove_0 {E : EE} {p : Program} {l : Launch} {e : Env} {s : State} {m : MethodId} {args : Array Value} {below : List Frame} {meth : Method} {c : Code} {Q : Int32 → II → Prop} (X : CX E p s m args meth c cX4_remove 3 (some .int) RX4) : ∀ (x1 : Int32) (I : II) (H : Heap) (locs : List Loc) (ls : Array Slot), wp_X4_remove x1 I Q → PP E s H locs I → lv_has ls 3 [(0, .ref (E.2.1 297)), (1, .int x1)] → W p l e rmX4_remove s m args below meth c H locs 0 0 (MQ below (va_Qi Q (BU E) E.2.2.2.1) args s 0 0 E.2.2.2.1) (F0 m 0 ls []) := by
  obtain ⟨⟨hx, hb, hml, hown, hts⟩, hr, hlk, hK, hST, hN⟩ := id X
  intro x1 I H locs ls h hp hl
  unfold wp_X4_remove at h
  refine lv_aload_n hx hb dX4_remove_0 rfl (lv_at hl 0 rfl) ?_
  refine lv_iload_n hx hb dX4_remove_1 rfl (lv_at hl 1 rfl) ?_
  refine ki (kV (As := [.int x1]) (rest := []) X hp (C_X4_isMissing  h) tw_ml_X4_26 vf_X4_isMissing ⟨rfl, rfl, Nat.le_of_ble_eq_true rfl, Nat.le_of_ble_eq_true rfl⟩ (pr_rcv X hp (k := 297) (by decide) (ob_297 _) (q := (RX4, TX4, 3)) rfl) rfl hl.1 rfl (Nat.le_of_ble_eq_true rfl) dX4_remove_2) hp (fun r2 I1 H locs h hp => ?_)
  refine lv_if_eq (tgt := 10) hx hb dX4_remove_5 (by decide) (fun c3 => ?_) (fun c3 => ?_)
  · have h := h.1 c3
    refine lv_aload_n hx hb dX4_remove_10 rfl (lv_at hl 0 rfl) ?_
    refine f_X4_16 X hp dX4_remove_11 ?_
    refine lv_iload_n hx hb dX4_remove_14 rfl (lv_at hl 1 rfl) ?_
    have hv4 := h.1
    have h := h.2
    refine al_i X hp ar_s299 hv4 dX4_remove_15 ?_
    refine lv_istore_n (lv' := [(2, .int (I1 299 x1.toNatClampNeg)), (0, .ref (E.2.1 297)), (1, .int x1)]) hx hb dX4_remove_16 rfl hl (by decide) rfl (fun ls hl => ?_)
    refine lv_aload_n hx hb dX4_remove_17 rfl (lv_at hl 1 rfl) ?_
    refine f_X4_10 X hp dX4_remove_18 ?_
    refine lv_iload_n hx hb dX4_remove_21 rfl (lv_at hl 2 rfl) ?_
    refine lv_ldc (v := (-nI 1000000)) hx hb hown (hts _ tw_k_X4_9) dX4_remove_22 ?_
    have hv5 := h.1
    have h := h.2
    refine as_i X hp ar_s298 hv5 dX4_remove_24 (fun H locs hp => ?_)
    obtain ⟨I6, e7⟩ : ∃ y, y = su I1 298 x1.toNatClampNeg (-nI 1000000) := ⟨_, rfl⟩
    have hp : PP E s H locs I6 := by rw [e7]; exact hp
    have h := h I6 e7
    refine lv_aload_n hx hb dX4_remove_25 rfl (lv_at hl 1 rfl) ?_
    refine f_X4_16 X hp dX4_remove_26 ?_
    refine lv_iload_n hx hb dX4_remove_29 rfl (lv_at hl 2 rfl) ?_
    refine lv_iconst (v := (nI 0)) hx hb dX4_remove_30 (by decide) ?_
    have hv8 := h.1
    have h := h.2
    refine as_i X hp ar_s299 hv8 dX4_remove_31 (fun H locs hp => ?_)
    obtain ⟨I9, e10⟩ : ∃ y, y = su I6 299 x1.toNatClampNeg (nI 0) := ⟨_, rfl⟩
    have hp : PP E s H locs I9 := by rw [e10]; exact hp
    have h := h I9 e10
    refine lv_iload_n hx hb dX4_remove_32 rfl (lv_at hl 0 rfl) ?_
    exact rt_i X hp h dX4_remove_33
  · have h := h.2 c3
    refine lv_iconst (v := (nI 0)) hx hb dX4_remove_8 (by decide) ?_
    exact rt_i X hp h dX4_remove_9
set_option maxRecDepth 100000 in
theorem C_X4_remove {E : EE} {l : Launch} {x1 : Int32} {I : II} {Q : Int32 → II → Prop} (h : wp_X4_remove x1 I Q) : Met l yX4_remove (Cond.code yX4_remove cX4_remove 3 (some .int) :: lwT) rmX4_remove (va_Pc [.ref (E.2.1 297), .int x1] (PU E I)) (va_Qi Q (BU E) E.2.2.2.1) 0 0 E.2.2.2.1 :=
  ofWalk [.ref (E.2.1 297), .int x1] (by decide) tw_c_X4_remove (Nat.le_of_ble_eq_true rfl) (fun p e s m below meth c ls X hp hl => w_X4_remove_0 X _ _ _ _ _ h hp hl)
abbrev rmX4_amount : Room := { frames := 2, cells := 0, slots := 0, locals := 41 }
theorem vf_X4_amount : VF yX4_amount RX4 cX4_amount 3 (some .int) 0 := ⟨tw_in_X4, tw_im_X4_amount, tw_se_X4_amount, tw_c_X4_amount, by decide, by decide, by decide +kernel⟩
def wp_X4_amount_21 (Q : Int32 → II → Prop) (k4 : Int32 → Int32 → II → Prop) (x1 : Int32) (x2 : Int32) (I : II) : Prop := (k4 x1 (x2 + (nI 1)) I)
set_option maxHeartbeats 4000000 in
set_option maxRecDepth 100000 in
theorem w_X4_amount_21 {E : EE} {p : Program} {l : Launch} {e : Env} {s : State} {m : MethodId} {args : Array Value} {below : List Frame} {meth : Method} {c : Code} {Q : Int32 → II → Prop} {k4 : Int32 → Int32 → II → Prop} (X : CX E p s m args meth c cX4_amount 3 (some .int) RX4) (K4 : ∀ (x1 : Int32) (x2 : Int32) (I : II) (H : Heap) (locs : List Loc) (ls : Array Slot), k4 x1 x2 I → PP E s H locs I → lv_has ls 3 [(0, .ref (E.2.1 297)), (1, .int x1), (2, .int x2)] → W p l e rmX4_amount s m args below meth c H locs 0 0 (MQ below (va_Qi Q (BU E) E.2.2.2.1) args s 0 0 E.2.2.2.1) (F0 m 4 ls [])) : ∀ (x1 : Int32) (x2 : Int32) (I : II) (H : Heap) (locs : List Loc) (ls : Array Slot), wp_X4_amount_21 Q k4 x1 x2 I → PP E s H locs I → lv_has ls 3 [(0, .ref (E.2.1 297)), (1, .int x1), (2, .int x2)] → W p l e rmX4_amount s m args below meth c H locs 0 0 (MQ below (va_Qi Q (BU E) E.2.2.2.1) args s 0 0 E.2.2.2.1) (F0 m 21 ls []) := by
  obtain ⟨⟨hx, hb, hml, hown, hts⟩, hr, hlk, hK, hST, hN⟩ := id X
  intro x1 x2 I H locs ls h hp hl
  unfold wp_X4_amount_21 at h
  refine lv_iinc (v := (x2 + (nI 1))) (lv' := [(2, .int (x2 + (nI 1))), (0, .ref (E.2.1 297)), (1, .int x1)]) hx hb dX4_amount_21 hl (k := 2) rfl rfl (by decide) rfl (fun ls hl => ?_)
  refine lv_goto (tgt := 4) hx hb dX4_amount_24 (by decide) ?_
  exact K4 _ _ _ _ _ _ h hp (lv_sub hl [1, 2, 0] rfl)
def wp_X4_amount_4 (Q : Int32 → II → Prop) (k27 : Int32 → II → Prop) : Nat → Int32 → Int32 → II → Prop
  | 0, _, _, _ => False
  | n + 1, x1, x2, I => (((nI 8) ≤ x2 → (k27 x1 I)) ∧ (¬ (nI 8) ≤ x2 → (wp_X4_isMissing x2 I (fun r3 I2 => ((¬ r3 = 0 → (wp_X4_amount_21 Q (fun x1 x2 I => wp_X4_amount_4 Q k27 n x1 x2 I) x1 x2 I2)) ∧ (r3 = 0 → (wp_X4_amount_21 Q (fun x1 x2 I => wp_X4_amount_4 Q k27 n x1 x2 I) (x1 + (nI 1)) x2 I2)))))))
set_option maxHeartbeats 4000000 in
set_option maxRecDepth 100000 in
theorem w_X4_amount_4 {E : EE} {p : Program} {l : Launch} {e : Env} {s : State} {m : MethodId} {args : Array Value} {below : List Frame} {meth : Method} {c : Code} {Q : Int32 → II → Prop} {k27 : Int32 → II → Prop} (X : CX E p s m args meth c cX4_amount 3 (some .int) RX4) (K27 : ∀ (x1 : Int32) (I : II) (H : Heap) (locs : List Loc) (ls : Array Slot), k27 x1 I → PP E s H locs I → lv_has ls 3 [(1, .int x1)] → W p l e rmX4_amount s m args below meth c H locs 0 0 (MQ below (va_Qi Q (BU E) E.2.2.2.1) args s 0 0 E.2.2.2.1) (F0 m 27 ls [])) : ∀ (n : Nat) (x1 : Int32) (x2 : Int32) (I : II) (H : Heap) (locs : List Loc) (ls : Array Slot), wp_X4_amount_4 Q k27 n x1 x2 I → PP E s H locs I → lv_has ls 3 [(0, .ref (E.2.1 297)), (1, .int x1), (2, .int x2)] → W p l e rmX4_amount s m args below meth c H locs 0 0 (MQ below (va_Qi Q (BU E) E.2.2.2.1) args s 0 0 E.2.2.2.1) (F0 m 4 ls []) := by
  obtain ⟨⟨hx, hb, hml, hown, hts⟩, hr, hlk, hK, hST, hN⟩ := id X
  intro n
  induction n with
  | zero =>
    intro x1 x2 I H locs ls h hp hl
    exact False.elim h
  | succ n ih =>
    intro x1 x2 I H locs ls h hp hl
    rw [wp_X4_amount_4.eq_2] at h
    refine lv_iload_n hx hb dX4_amount_4 rfl (lv_at hl 2 rfl) ?_
    refine lv_bipush (v := (nI 8)) hx hb dX4_amount_5 (by decide) ?_
    refine lv_icmp_ge (tgt := 27) hx hb dX4_amount_7 (by decide) (fun c1 => ?_) (fun c1 => ?_)
    · have h := h.1 c1
      exact K27 _ _ _ _ _ h hp (lv_sub hl [1] rfl)
    · have h := h.2 c1
      refine lv_aload_n hx hb dX4_amount_10 rfl (lv_at hl 0 rfl) ?_
      refine lv_iload_n hx hb dX4_amount_11 rfl (lv_at hl 2 rfl) ?_
      refine ki (kV (As := [.int x2]) (rest := []) X hp (C_X4_isMissing  h) tw_ml_X4_26 vf_X4_isMissing ⟨rfl, rfl, Nat.le_of_ble_eq_true rfl, Nat.le_of_ble_eq_true rfl⟩ (pr_rcv X hp (k := 297) (by decide) (ob_297 _) (q := (RX4, TX4, 3)) rfl) rfl hl.1 rfl (Nat.le_of_ble_eq_true rfl) dX4_amount_12) hp (fun r3 I2 H locs h hp => ?_)
      refine lv_if_ne (tgt := 21) hx hb dX4_amount_15 (by decide) (fun c4 => ?_) (fun c4 => ?_)
      · have h := h.1 c4
        exact w_X4_amount_21 X ih _ _ _ _ _ _ h hp (lv_sub hl [0, 1, 2] rfl)
      · have h := h.2 c4
        refine lv_iinc (v := (x1 + (nI 1))) (lv' := [(1, .int (x1 + (nI 1))), (0, .ref (E.2.1 297)), (2, .int x2)]) hx hb dX4_amount_18 hl (k := 1) rfl rfl (by decide) rfl (fun ls hl => ?_)
        exact w_X4_amount_21 X ih _ _ _ _ _ _ h hp (lv_sub hl [1, 0, 2] rfl)
def wp_X4_amount (I : II) (Q : Int32 → II → Prop) : Prop := (∃ n51, wp_X4_amount_4 Q (fun x1 I => (Q x1 I)) n51 (nI 0) (nI 0) I)
set_option maxHeartbeats 4000000 in
set_option maxRecDepth 100000 in
theorem w_X4_amount_0 {E : EE} {p : Program} {l : Launch} {e : Env} {s : State} {m : MethodId} {args : Array Value} {below : List Frame} {meth : Method} {c : Code} {Q : Int32 → II → Prop} (X : CX E p s m args meth c cX4_amount 3 (some .int) RX4) : ∀ (I : II) (H : Heap) (locs : List Loc) (ls : Array Slot), wp_X4_amount I Q → PP E s H locs I → lv_has ls 3 [(0, .ref (E.2.1 297))] → W p l e rmX4_amount s m args below meth c H locs 0 0 (MQ below (va_Qi Q (BU E) E.2.2.2.1) args s 0 0 E.2.2.2.1) (F0 m 0 ls []) := by
  obtain ⟨⟨hx, hb, hml, hown, hts⟩, hr, hlk, hK, hST, hN⟩ := id X
  intro I H locs ls h hp hl
  unfold wp_X4_amount at h
  refine lv_iconst (v := (nI 0)) hx hb dX4_amount_0 (by decide) ?_
  refine lv_istore_n (lv' := [(1, .int (nI 0)), (0, .ref (E.2.1 297))]) hx hb dX4_amount_1 rfl hl (by decide) rfl (fun ls hl => ?_)
  refine lv_iconst (v := (nI 0)) hx hb dX4_amount_2 (by decide) ?_
  refine lv_istore_n (lv' := [(2, .int (nI 0)), (1, .int (nI 0)), (0, .ref (E.2.1 297))]) hx hb dX4_amount_3 rfl hl (by decide) rfl (fun ls hl => ?_)
  obtain ⟨n51, h⟩ := h
  refine w_X4_amount_4 X ?_ n51 _ _ _ _ _ _ h hp (lv_sub hl [2, 1, 0] rfl)
  · intro x1 I H locs ls h hp hl
    refine lv_iload_n hx hb dX4_amount_27 rfl (lv_at hl 0 rfl) ?_
    exact rt_i X hp h dX4_amount_28
set_option maxRecDepth 100000 in
theorem C_X4_amount {E : EE} {l : Launch} {I : II} {Q : Int32 → II → Prop} (h : wp_X4_amount I Q) : Met l yX4_amount (Cond.code yX4_amount cX4_amount 3 (some .int) :: lwT) rmX4_amount (va_Pc [.ref (E.2.1 297)] (PU E I)) (va_Qi Q (BU E) E.2.2.2.1) 0 0 E.2.2.2.1 :=
  ofWalk [.ref (E.2.1 297)] (by decide) tw_c_X4_amount (Nat.le_of_ble_eq_true rfl) (fun p e s m below meth c ls X hp hl => w_X4_amount_0 X _ _ _ _ h hp hl)

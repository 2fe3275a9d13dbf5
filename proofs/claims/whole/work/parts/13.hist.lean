abbrev rmX3_keep : Room := { frames := 2, cells := 0, slots := 0, locals := 44 }
theorem vf_X3_keep : VF yX3_keep RX3 cX3_keep 2 none 1 := ⟨tw_in_X3, tw_im_X3_keep, tw_se_X3_keep, tw_c_X3_keep, by decide, by decide, by decide +kernel⟩
def wp_X3_keep (j : Nat) (I : II) (Q : II → Prop) : Prop := (¬ (nI 24) = 0 ∧ (∀ I2 : II, I2 = su I 303 1 (((I 303 1) + (nI 1)) - ((I 303 1) + (nI 1)) / (nI 24) * (nI 24)) → (vp_in (I2 303 1) 24 ∧ (wp_X1_takeAll (5 + (I2 303 1).toNatClampNeg) j I2 (fun I5 => (∀ I7 : II, I7 = su I5 303 2 (if (nI 24) < ((I5 303 2) + (nI 1)) then (nI 24) else ((I5 303 2) + (nI 1))) → (Q I7)))))))
set_option maxHeartbeats 4000000 in
set_option maxRecDepth 100000 in
theorem w_X3_keep_0 {E : EE} {p : Program} {l : Launch} {e : Env} {s : State} {m : MethodId} {args : Array Value} {below : List Frame} {meth : Method} {c : Code} {Q : II → Prop} (X : CX E p s m args meth c cX3_keep 2 none RX3) {j : Nat} (hj : j < 37) : ∀ (I : II) (H : Heap) (locs : List Loc) (ls : Array Slot), wp_X3_keep j I Q → PP E s H locs I → lv_has ls 2 [(0, .ref (E.2.1 303)), (1, .ref (E.2.1 (8 * j)))] → W p l e rmX3_keep s m args below meth c H locs 0 0 (MQ below (va_Qv Q (BU E) E.2.2.2.1) args s 0 0 E.2.2.2.1) (F0 m 0 ls []) := by
  obtain ⟨⟨hx, hb, hml, hown, hts⟩, hr, hlk, hK, hST, hN⟩ := id X
  intro I H locs ls h hp hl
  unfold wp_X3_keep at h
  refine lv_aload_n hx hb dX3_keep_0 rfl (lv_at hl 0 rfl) ?_
  refine lv_aload_n hx hb dX3_keep_1 rfl (lv_at hl 0 rfl) ?_
  refine f_X3_18 X hp dX3_keep_2 ?_
  refine lv_iconst (v := (nI 1)) hx hb dX3_keep_5 (by decide) ?_
  refine lv_iadd hx hb dX3_keep_6 ?_
  refine lv_bipush (v := (nI 24)) hx hb dX3_keep_7 (by decide) ?_
  have hz1 := h.1
  have h := h.2
  refine lv_irem hx hb dX3_keep_9 hz1 ?_
  refine g_X3_18 X hp dX3_keep_10 (fun H locs hp => ?_)
  obtain ⟨I2, e3⟩ : ∃ y, y = su I 303 1 (((I 303 1) + (nI 1)) - ((I 303 1) + (nI 1)) / (nI 24) * (nI 24)) := ⟨_, rfl⟩
  have hp : PP E s H locs I2 := by rw [e3]; exact hp
  have h := h I2 e3
  refine lv_aload_n hx hb dX3_keep_13 rfl (lv_at hl 0 rfl) ?_
  refine f_X3_11 X hp dX3_keep_14 ?_
  refine lv_aload_n hx hb dX3_keep_17 rfl (lv_at hl 0 rfl) ?_
  refine f_X3_18 X hp dX3_keep_18 ?_
  have hv4 := h.1
  have h := h.2
  refine al_a X hp ba_304 hv4 dX3_keep_21 ?_
  refine lv_aload_n hx hb dX3_keep_22 rfl (lv_at hl 1 rfl) ?_
  refine kv (kV (As := [.ref (E.2.1 (8 * j))]) (rest := []) X hp (C_X1_takeAll (bk_5 hv4) hj h) tw_ml_X3_22 vf_X1_takeAll ⟨rfl, rfl, Nat.le_of_ble_eq_true rfl, Nat.le_of_ble_eq_true rfl⟩ (pr_rcvb X hp (bk_5 hv4)) rfl hl.1 rfl (Nat.le_of_ble_eq_true rfl) dX3_keep_23) hp (fun I5 H locs h hp => ?_)
  refine lv_aload_n hx hb dX3_keep_26 rfl (lv_at hl 0 rfl) ?_
  refine lv_aload_n hx hb dX3_keep_27 rfl (lv_at hl 0 rfl) ?_
  refine f_X3_26 X hp dX3_keep_28 ?_
  refine lv_iconst (v := (nI 1)) hx hb dX3_keep_31 (by decide) ?_
  refine lv_iadd hx hb dX3_keep_32 ?_
  refine lv_bipush (v := (nI 24)) hx hb dX3_keep_33 (by decide) ?_
  refine mn_i X tw_ml_X3_29 hl.1 ⟨Nat.le_of_ble_eq_true rfl, Nat.le_of_ble_eq_true rfl⟩ dX3_keep_35 ?_
  refine g_X3_26 X hp dX3_keep_38 (fun H locs hp => ?_)
  obtain ⟨I7, e8⟩ : ∃ y, y = su I5 303 2 (if (nI 24) < ((I5 303 2) + (nI 1)) then (nI 24) else ((I5 303 2) + (nI 1))) := ⟨_, rfl⟩
  have hp : PP E s H locs I7 := by rw [e8]; exact hp
  have h := h I7 e8
  exact rt_v X hp h dX3_keep_41
set_option maxRecDepth 100000 in
theorem C_X3_keep {E : EE} {l : Launch} {j : Nat} (hj : j < 37) {I : II} {Q : II → Prop} (h : wp_X3_keep j I Q) : Met l yX3_keep (Cond.code yX3_keep cX3_keep 2 none :: lwT) rmX3_keep (va_Pc [.ref (E.2.1 303), .ref (E.2.1 (8 * j))] (PU E I)) (va_Qv Q (BU E) E.2.2.2.1) 0 0 E.2.2.2.1 :=
  ofWalk [.ref (E.2.1 303), .ref (E.2.1 (8 * j))] (by decide) tw_c_X3_keep (Nat.le_of_ble_eq_true rfl) (fun p e s m below meth c ls X hp hl => w_X3_keep_0 X hj _ _ _ _ h hp hl)
abbrev rmX3_goBack : Room := { frames := 2, cells := 0, slots := 0, locals := 44 }
theorem vf_X3_goBack : VF yX3_goBack RX3 cX3_goBack 2 none 1 := ⟨tw_in_X3, tw_im_X3_goBack, tw_se_X3_goBack, tw_c_X3_goBack, by decide, by decide, by decide +kernel⟩
def wp_X3_goBack (j : Nat) (I : II) (Q : II → Prop) : Prop := ((¬ (I 303 2) = 0 → (vp_in (I 303 1) 24 ∧ (wp_X1_takeAll j (5 + (I 303 1).toNatClampNeg) I (fun I3 => (¬ (nI 24) = 0 ∧ (∀ I6 : II, I6 = su I3 303 1 ((((I3 303 1) + (nI 24)) - (nI 1)) - (((I3 303 1) + (nI 24)) - (nI 1)) / (nI 24) * (nI 24)) → (∀ I8 : II, I8 = su I6 303 2 ((I6 303 2) - (nI 1)) → (Q I8)))))))) ∧ ((I 303 2) = 0 → (Q I)))
set_option maxHeartbeats 4000000 in
set_option maxRecDepth 100000 in
theorem w_X3_goBack_0 {E : EE} {p : Program} {l : Launch} {e : Env} {s : State} {m : MethodId} {args : Array Value} {below : List Frame} {meth : Method} {c : Code} {Q : II → Prop} (X : CX E p s m args meth c cX3_goBack 2 none RX3) {j : Nat} (hj : j < 37) : ∀ (I : II) (H : Heap) (locs : List Loc) (ls : Array Slot), wp_X3_goBack j I Q → PP E s H locs I → lv_has ls 2 [(0, .ref (E.2.1 303)), (1, .ref (E.2.1 (8 * j)))] → W p l e rmX3_goBack s m args below meth c H locs 0 0 (MQ below (va_Qv Q (BU E) E.2.2.2.1) args s 0 0 E.2.2.2.1) (F0 m 0 ls []) := by
  obtain ⟨⟨hx, hb, hml, hown, hts⟩, hr, hlk, hK, hST, hN⟩ := id X
  intro I H locs ls h hp hl
  unfold wp_X3_goBack at h
  refine lv_aload_n hx hb dX3_goBack_0 rfl (lv_at hl 0 rfl) ?_
  refine f_X3_26 X hp dX3_goBack_1 ?_
  refine lv_if_ne (tgt := 8) hx hb dX3_goBack_4 (by decide) (fun c1 => ?_) (fun c1 => ?_)
  · have h := h.1 c1
    refine lv_aload_n hx hb dX3_goBack_8 rfl (lv_at hl 1 rfl) ?_
    refine lv_aload_n hx hb dX3_goBack_9 rfl (lv_at hl 0 rfl) ?_
    refine f_X3_11 X hp dX3_goBack_10 ?_
    refine lv_aload_n hx hb dX3_goBack_13 rfl (lv_at hl 0 rfl) ?_
    refine f_X3_18 X hp dX3_goBack_14 ?_
    have hv2 := h.1
    have h := h.2
    refine al_a X hp ba_304 hv2 dX3_goBack_17 ?_
    refine kv (kV (As := [.ref (E.2.1 (8 * (5 + (I 303 1).toNatClampNeg)))]) (rest := []) X hp (C_X1_takeAll hj (bk_5 hv2) h) tw_ml_X3_22 vf_X1_takeAll ⟨rfl, rfl, Nat.le_of_ble_eq_true rfl, Nat.le_of_ble_eq_true rfl⟩ (pr_rcvb X hp hj) rfl hl.1 rfl (Nat.le_of_ble_eq_true rfl) dX3_goBack_18) hp (fun I3 H locs h hp => ?_)
    refine lv_aload_n hx hb dX3_goBack_21 rfl (lv_at hl 0 rfl) ?_
    refine lv_aload_n hx hb dX3_goBack_22 rfl (lv_at hl 0 rfl) ?_
    refine f_X3_18 X hp dX3_goBack_23 ?_
    refine lv_bipush (v := (nI 24)) hx hb dX3_goBack_26 (by decide) ?_
    refine lv_iadd hx hb dX3_goBack_28 ?_
    refine lv_iconst (v := (nI 1)) hx hb dX3_goBack_29 (by decide) ?_
    refine lv_isub hx hb dX3_goBack_30 ?_
    refine lv_bipush (v := (nI 24)) hx hb dX3_goBack_31 (by decide) ?_
    have hz5 := h.1
    have h := h.2
    refine lv_irem hx hb dX3_goBack_33 hz5 ?_
    refine g_X3_18 X hp dX3_goBack_34 (fun H locs hp => ?_)
    obtain ⟨I6, e7⟩ : ∃ y, y = su I3 303 1 ((((I3 303 1) + (nI 24)) - (nI 1)) - (((I3 303 1) + (nI 24)) - (nI 1)) / (nI 24) * (nI 24)) := ⟨_, rfl⟩
    have hp : PP E s H locs I6 := by rw [e7]; exact hp
    have h := h I6 e7
    refine lv_aload_n hx hb dX3_goBack_37 rfl (lv_at hl 0 rfl) ?_
    refine lv_dup hx hb dX3_goBack_38 rfl ?_
    refine f_X3_26 X hp dX3_goBack_39 ?_
    refine lv_iconst (v := (nI 1)) hx hb dX3_goBack_42 (by decide) ?_
    refine lv_isub hx hb dX3_goBack_43 ?_
    refine g_X3_26 X hp dX3_goBack_44 (fun H locs hp => ?_)
    obtain ⟨I8, e9⟩ : ∃ y, y = su I6 303 2 ((I6 303 2) - (nI 1)) := ⟨_, rfl⟩
    have hp : PP E s H locs I8 := by rw [e9]; exact hp
    have h := h I8 e9
    exact rt_v X hp h dX3_goBack_47
  · have h := h.2 c1
    exact rt_v X hp h dX3_goBack_7
set_option maxRecDepth 100000 in
theorem C_X3_goBack {E : EE} {l : Launch} {j : Nat} (hj : j < 37) {I : II} {Q : II → Prop} (h : wp_X3_goBack j I Q) : Met l yX3_goBack (Cond.code yX3_goBack cX3_goBack 2 none :: lwT) rmX3_goBack (va_Pc [.ref (E.2.1 303), .ref (E.2.1 (8 * j))] (PU E I)) (va_Qv Q (BU E) E.2.2.2.1) 0 0 E.2.2.2.1 :=
  ofWalk [.ref (E.2.1 303), .ref (E.2.1 (8 * j))] (by decide) tw_c_X3_goBack (Nat.le_of_ble_eq_true rfl) (fun p e s m below meth c ls X hp hl => w_X3_goBack_0 X hj _ _ _ _ h hp hl)
abbrev rmX3_clear : Room := { frames := 0, cells := 0, slots := 0, locals := 0 }
theorem vf_X3_clear : VF yX3_clear RX3 cX3_clear 1 none 0 := ⟨tw_in_X3, tw_im_X3_clear, tw_se_X3_clear, tw_c_X3_clear, by decide, by decide, by decide +kernel⟩
def wp_X3_clear (I : II) (Q : II → Prop) : Prop := (∀ I1 : II, I1 = su I 303 2 (nI 0) → (Q I1))
set_option maxHeartbeats 4000000 in
set_option maxRecDepth 100000 in
theorem w_X3_clear_0 {E : EE} {p : Program} {l : Launch} {e : Env} {s : State} {m : MethodId} {args : Array Value} {below : List Frame} {meth : Method} {c : Code} {Q : II → Prop} (X : CX E p s m args meth c cX3_clear 1 none RX3) : ∀ (I : II) (H : Heap) (locs : List Loc) (ls : Array Slot), wp_X3_clear I Q → PP E s H locs I → lv_has ls 1 [(0, .ref (E.2.1 303))] → W p l e rmX3_clear s m args below meth c H locs 0 0 (MQ below (va_Qv Q (BU E) E.2.2.2.1) args s 0 0 E.2.2.2.1) (F0 m 0 ls []) := by
  obtain ⟨⟨hx, hb, hml, hown, hts⟩, hr, hlk, hK, hST, hN⟩ := id X
  intro I H locs ls h hp hl
  unfold wp_X3_clear at h
  refine lv_aload_n hx hb dX3_clear_0 rfl (lv_at hl 0 rfl) ?_
  refine lv_iconst (v := (nI 0)) hx hb dX3_clear_1 (by decide) ?_
  refine g_X3_26 X hp dX3_clear_2 (fun H locs hp => ?_)
  obtain ⟨I1, e2⟩ : ∃ y, y = su I 303 2 (nI 0) := ⟨_, rfl⟩
  have hp : PP E s H locs I1 := by rw [e2]; exact hp
  have h := h I1 e2
  exact rt_v X hp h dX3_clear_5
set_option maxRecDepth 100000 in
theorem C_X3_clear {E : EE} {l : Launch} {I : II} {Q : II → Prop} (h : wp_X3_clear I Q) : Met l yX3_clear (Cond.code yX3_clear cX3_clear 1 none :: lwT) rmX3_clear (va_Pc [.ref (E.2.1 303)] (PU E I)) (va_Qv Q (BU E) E.2.2.2.1) 0 0 E.2.2.2.1 :=
  ofWalk [.ref (E.2.1 303)] (by decide) tw_c_X3_clear (Nat.le_of_ble_eq_true rfl) (fun p e s m below meth c ls X hp hl => w_X3_clear_0 X _ _ _ _ h hp hl)

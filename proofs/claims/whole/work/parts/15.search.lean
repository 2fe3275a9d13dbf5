abbrev rmX5_forget : Room := { frames := 0, cells := 0, slots := 0, locals := 0 }
theorem vf_X5_forget : VF yX5_forget RX5 cX5_forget 1 none 0 := ⟨tw_in_X5, tw_im_X5_forget, tw_se_X5_forget, tw_c_X5_forget, by decide, by decide, by decide +kernel⟩
def wp_X5_forget (I : II) (Q : II → Prop) : Prop := (∀ I1 : II, I1 = su I 308 9 (nI 0) → (∀ I3 : II, I3 = su I1 308 10 (nI 0) → (Q I3)))
set_option maxHeartbeats 4000000 in
set_option maxRecDepth 100000 in
theorem w_X5_forget_0 {E : EE} {p : Program} {l : Launch} {e : Env} {s : State} {m : MethodId} {args : Array Value} {below : List Frame} {meth : Method} {c : Code} {Q : II → Prop} (X : CX E p s m args meth c cX5_forget 1 none RX5) : ∀ (I : II) (H : Heap) (locs : List Loc) (ls : Array Slot), wp_X5_forget I Q → PP E s H locs I → lv_has ls 1 [(0, .ref (E.2.1 308))] → W p l e rmX5_forget s m args below meth c H locs 0 0 (MQ below (va_Qv Q (BU E) E.2.2.2.1) args s 0 0 E.2.2.2.1) (F0 m 0 ls []) := by
  obtain ⟨⟨hx, hb, hml, hown, hts⟩, hr, hlk, hK, hST, hN⟩ := id X
  intro I H locs ls h hp hl
  unfold wp_X5_forget at h
  refine lv_aload_n hx hb dX5_forget_0 rfl (lv_at hl 0 rfl) ?_
  refine lv_iconst (v := (nI 0)) hx hb dX5_forget_1 (by decide) ?_
  refine g_X5_28 X hp (Or.inl rfl) dX5_forget_2 (fun H locs hp => ?_)
  obtain ⟨I1, e2⟩ : ∃ y, y = su I 308 9 (nI 0) := ⟨_, rfl⟩
  have hp : PP E s H locs I1 := by rw [e2]; exact hp
  have h := h I1 e2
  refine lv_aload_n hx hb dX5_forget_5 rfl (lv_at hl 0 rfl) ?_
  refine lv_iconst (v := (nI 0)) hx hb dX5_forget_6 (by decide) ?_
  refine g_X5_32 X hp (Or.inl rfl) dX5_forget_7 (fun H locs hp => ?_)
  obtain ⟨I3, e4⟩ : ∃ y, y = su I1 308 10 (nI 0) := ⟨_, rfl⟩
  have hp : PP E s H locs I3 := by rw [e4]; exact hp
  have h := h I3 e4
  exact rt_v X hp h dX5_forget_10
set_option maxRecDepth 100000 in
theorem C_X5_forget {E : EE} {l : Launch} {I : II} {Q : II → Prop} (h : wp_X5_forget I Q) : Met l yX5_forget (Cond.code yX5_forget cX5_forget 1 none :: lwT) rmX5_forget (va_Pc [.ref (E.2.1 308)] (PU E I)) (va_Qv Q (BU E) E.2.2.2.1) 0 0 E.2.2.2.1 :=
  ofWalk [.ref (E.2.1 308)] (by decide) tw_c_X5_forget (Nat.le_of_ble_eq_true rfl) (fun p e s m below meth c ls X hp hl => w_X5_forget_0 X _ _ _ _ h hp hl)
abbrev rmX5_makeReady : Room := { frames := 2, cells := 0, slots := 0, locals := 44 }
theorem vf_X5_makeReady : VF yX5_makeReady RX5 cX5_makeReady 3 none 1 := ⟨tw_in_X5, tw_im_X5_makeReady, tw_se_X5_makeReady, tw_c_X5_makeReady, by decide, by decide, by decide +kernel⟩
def wp_X5_makeReady_23 (j : Nat) (Q : II → Prop) (k47 : II → Prop) : Nat → Int32 → II → Prop
  | 0, _, _ => False
  | n + 1, x2, I => (((I 308 4) < x2 → (k47 I)) ∧ (¬ (I 308 4) < x2 → (vp_in x2 8 ∧ (wp_X1_takeAll (29 + x2.toNatClampNeg) j I (fun I3 => (wp_X5_makeReady_23 j Q k47 n (x2 + (nI 1)) I3))))))
set_option maxHeartbeats 4000000 in
set_option maxRecDepth 100000 in
theorem w_X5_makeReady_23 {E : EE} {p : Program} {l : Launch} {e : Env} {s : State} {m : MethodId} {args : Array Value} {below : List Frame} {meth : Method} {c : Code} {Q : II → Prop} {k47 : II → Prop} (X : CX E p s m args meth c cX5_makeReady 3 none RX5) {j : Nat} (hj : j < 37) (K47 : ∀ (I : II) (H : Heap) (locs : List Loc) (ls : Array Slot), k47 I → PP E s H locs I → lv_has ls 3 [] → W p l e rmX5_makeReady s m args below meth c H locs 0 0 (MQ below (va_Qv Q (BU E) E.2.2.2.1) args s 0 0 E.2.2.2.1) (F0 m 47 ls [])) : ∀ (n : Nat) (x2 : Int32) (I : II) (H : Heap) (locs : List Loc) (ls : Array Slot), wp_X5_makeReady_23 j Q k47 n x2 I → PP E s H locs I → lv_has ls 3 [(0, .ref (E.2.1 308)), (1, .ref (E.2.1 (8 * j))), (2, .int x2)] → W p l e rmX5_makeReady s m args below meth c H locs 0 0 (MQ below (va_Qv Q (BU E) E.2.2.2.1) args s 0 0 E.2.2.2.1) (F0 m 23 ls []) := by
  obtain ⟨⟨hx, hb, hml, hown, hts⟩, hr, hlk, hK, hST, hN⟩ := id X
  intro n
  induction n with
  | zero =>
    intro x2 I H locs ls h hp hl
    exact False.elim h
  | succ n ih =>
    intro x2 I H locs ls h hp hl
    rw [wp_X5_makeReady_23.eq_2] at h
    refine lv_iload_n hx hb dX5_makeReady_23 rfl (lv_at hl 2 rfl) ?_
    refine lv_aload_n hx hb dX5_makeReady_24 rfl (lv_at hl 0 rfl) ?_
    refine f_X5_45 X hp dX5_makeReady_25 ?_
    refine lv_icmp_gt (tgt := 47) hx hb dX5_makeReady_28 (by decide) (fun c1 => ?_) (fun c1 => ?_)
    · have h := h.1 c1
      exact K47 _ _ _ _ h hp (lv_sub hl [] rfl)
    · have h := h.2 c1
      refine lv_aload_n hx hb dX5_makeReady_31 rfl (lv_at hl 0 rfl) ?_
      refine f_X5_11 X hp dX5_makeReady_32 ?_
      refine lv_iload_n hx hb dX5_makeReady_35 rfl (lv_at hl 2 rfl) ?_
      have hv2 := h.1
      have h := h.2
      refine al_a X hp ba_309 hv2 dX5_makeReady_36 ?_
      refine lv_aload_n hx hb dX5_makeReady_37 rfl (lv_at hl 1 rfl) ?_
      refine kv (kV (As := [.ref (E.2.1 (8 * j))]) (rest := []) X hp (C_X1_takeAll (bk_29 hv2) hj h) tw_ml_X5_54 vf_X1_takeAll ⟨rfl, rfl, Nat.le_of_ble_eq_true rfl, Nat.le_of_ble_eq_true rfl⟩ (pr_rcvb X hp (bk_29 hv2)) rfl hl.1 rfl (Nat.le_of_ble_eq_true rfl) dX5_makeReady_38) hp (fun I3 H locs h hp => ?_)
      refine lv_iinc (v := (x2 + (nI 1))) (lv' := [(2, .int (x2 + (nI 1))), (0, .ref (E.2.1 308)), (1, .ref (E.2.1 (8 * j)))]) hx hb dX5_makeReady_41 hl (k := 2) rfl rfl (by decide) rfl (fun ls hl => ?_)
      refine lv_goto (tgt := 23) hx hb dX5_makeReady_44 (by decide) ?_
      exact ih _ _ _ _ _ h hp (lv_sub hl [1, 2, 0] rfl)
def wp_X5_makeReady (j : Nat) (I : II) (Q : II → Prop) : Prop := (∀ I1 : II, I1 = su I 308 4 (if (nI 7) < (I (8 * j) 7) then (nI 7) else (I (8 * j) 7)) → (∀ I3 : II, I3 = su I1 308 5 (I1 (8 * j) 5) → (∃ n55, wp_X5_makeReady_23 j Q (fun I => (Q I)) n55 (nI 0) I3)))
set_option maxHeartbeats 4000000 in
set_option maxRecDepth 100000 in
theorem w_X5_makeReady_0 {E : EE} {p : Program} {l : Launch} {e : Env} {s : State} {m : MethodId} {args : Array Value} {below : List Frame} {meth : Method} {c : Code} {Q : II → Prop} (X : CX E p s m args meth c cX5_makeReady 3 none RX5) {j : Nat} (hj : j < 37) : ∀ (I : II) (H : Heap) (locs : List Loc) (ls : Array Slot), wp_X5_makeReady j I Q → PP E s H locs I → lv_has ls 3 [(0, .ref (E.2.1 308)), (1, .ref (E.2.1 (8 * j)))] → W p l e rmX5_makeReady s m args below meth c H locs 0 0 (MQ below (va_Qv Q (BU E) E.2.2.2.1) args s 0 0 E.2.2.2.1) (F0 m 0 ls []) := by
  obtain ⟨⟨hx, hb, hml, hown, hts⟩, hr, hlk, hK, hST, hN⟩ := id X
  intro I H locs ls h hp hl
  unfold wp_X5_makeReady at h
  refine lv_aload_n hx hb dX5_makeReady_0 rfl (lv_at hl 0 rfl) ?_
  refine lv_aload_n hx hb dX5_makeReady_1 rfl (lv_at hl 1 rfl) ?_
  refine f_X5_35 X hp hj dX5_makeReady_2 ?_
  refine lv_bipush (v := (nI 7)) hx hb dX5_makeReady_5 (by decide) ?_
  refine mn_i X tw_ml_X5_39 hl.1 ⟨Nat.le_of_ble_eq_true rfl, Nat.le_of_ble_eq_true rfl⟩ dX5_makeReady_7 ?_
  refine g_X5_45 X hp dX5_makeReady_10 (fun H locs hp => ?_)
  obtain ⟨I1, e2⟩ : ∃ y, y = su I 308 4 (if (nI 7) < (I (8 * j) 7) then (nI 7) else (I (8 * j) 7)) := ⟨_, rfl⟩
  have hp : PP E s H locs I1 := by rw [e2]; exact hp
  have h := h I1 e2
  refine lv_aload_n hx hb dX5_makeReady_13 rfl (lv_at hl 0 rfl) ?_
  refine lv_aload_n hx hb dX5_makeReady_14 rfl (lv_at hl 1 rfl) ?_
  refine f_X5_48 X hp hj dX5_makeReady_15 ?_
  refine g_X5_51 X hp dX5_makeReady_18 (fun H locs hp => ?_)
  obtain ⟨I3, e4⟩ : ∃ y, y = su I1 308 5 (I1 (8 * j) 5) := ⟨_, rfl⟩
  have hp : PP E s H locs I3 := by rw [e4]; exact hp
  have h := h I3 e4
  refine lv_iconst (v := (nI 0)) hx hb dX5_makeReady_21 (by decide) ?_
  refine lv_istore_n (lv' := [(2, .int (nI 0)), (0, .ref (E.2.1 308)), (1, .ref (E.2.1 (8 * j)))]) hx hb dX5_makeReady_22 rfl hl (by decide) rfl (fun ls hl => ?_)
  obtain ⟨n55, h⟩ := h
  refine w_X5_makeReady_23 X hj ?_ n55 _ _ _ _ _ h hp (lv_sub hl [1, 2, 0] rfl)
  · intro I H locs ls h hp hl
    exact rt_v X hp h dX5_makeReady_47
set_option maxRecDepth 100000 in
theorem C_X5_makeReady {E : EE} {l : Launch} {j : Nat} (hj : j < 37) {I : II} {Q : II → Prop} (h : wp_X5_makeReady j I Q) : Met l yX5_makeReady (Cond.code yX5_makeReady cX5_makeReady 3 none :: lwT) rmX5_makeReady (va_Pc [.ref (E.2.1 308), .ref (E.2.1 (8 * j))] (PU E I)) (va_Qv Q (BU E) E.2.2.2.1) 0 0 E.2.2.2.1 :=
  ofWalk [.ref (E.2.1 308), .ref (E.2.1 (8 * j))] (by decide) tw_c_X5_makeReady (Nat.le_of_ble_eq_true rfl) (fun p e s m below meth c ls X hp hl => w_X5_makeReady_0 X hj _ _ _ _ h hp hl)
abbrev rmX5_keepOrder : Room := { frames := 1, cells := 0, slots := 0, locals := 40 }
theorem vf_X5_keepOrder : VF yX5_keepOrder RX5 cX5_keepOrder 3 none 2 := ⟨tw_in_X5, tw_im_X5_keepOrder, tw_se_X5_keepOrder, tw_c_X5_keepOrder, by decide, by decide, by decide +kernel⟩
def wp_X5_keepOrder_24 (Q : II → Prop) (x1 : Int32) (x2 : Int32) (I : II) : Prop := (∀ I1 : II, I1 = su I 308 6 x1 → (∀ I3 : II, I3 = su I1 308 7 x2 → (¬ (nI 0) < 0 ∧ ¬ (nI 0) < 0 ∧ ¬ (nI 7) < 0 ∧ (nI 0).toNatClampNeg + (nI 7).toNatClampNeg ≤ 7 ∧ (nI 0).toNatClampNeg + (nI 7).toNatClampNeg ≤ 7 ∧ ∀ I10 : II, I10 = va_up I3 311 (va_cpy (I3 310) (I3 311) (nI 0).toNatClampNeg (nI 0).toNatClampNeg (nI 7).toNatClampNeg) → (Q I10))))
set_option maxHeartbeats 4000000 in
set_option maxRecDepth 100000 in
theorem w_X5_keepOrder_24 {E : EE} {p : Program} {l : Launch} {e : Env} {s : State} {m : MethodId} {args : Array Value} {below : List Frame} {meth : Method} {c : Code} {Q : II → Prop} (X : CX E p s m args meth c cX5_keepOrder 3 none RX5) : ∀ (x1 : Int32) (x2 : Int32) (I : II) (H : Heap) (locs : List Loc) (ls : Array Slot), wp_X5_keepOrder_24 Q x1 x2 I → PP E s H locs I → lv_has ls 3 [(0, .ref (E.2.1 308)), (1, .int x1), (2, .int x2)] → W p l e rmX5_keepOrder s m args below meth c H locs 0 0 (MQ below (va_Qv Q (BU E) E.2.2.2.1) args s 0 0 E.2.2.2.1) (F0 m 24 ls []) := by
  obtain ⟨⟨hx, hb, hml, hown, hts⟩, hr, hlk, hK, hST, hN⟩ := id X
  intro x1 x2 I H locs ls h hp hl
  unfold wp_X5_keepOrder_24 at h
  refine lv_aload_n hx hb dX5_keepOrder_24 rfl (lv_at hl 0 rfl) ?_
  refine lv_iload_n hx hb dX5_keepOrder_25 rfl (lv_at hl 1 rfl) ?_
  refine g_X5_61 X hp dX5_keepOrder_26 (fun H locs hp => ?_)
  obtain ⟨I1, e2⟩ : ∃ y, y = su I 308 6 x1 := ⟨_, rfl⟩
  have hp : PP E s H locs I1 := by rw [e2]; exact hp
  have h := h I1 e2
  refine lv_aload_n hx hb dX5_keepOrder_29 rfl (lv_at hl 0 rfl) ?_
  refine lv_iload_n hx hb dX5_keepOrder_30 rfl (lv_at hl 2 rfl) ?_
  refine g_X5_64 X hp dX5_keepOrder_31 (fun H locs hp => ?_)
  obtain ⟨I3, e4⟩ : ∃ y, y = su I1 308 7 x2 := ⟨_, rfl⟩
  have hp : PP E s H locs I3 := by rw [e4]; exact hp
  have h := h I3 e4
  refine lv_aload_n hx hb dX5_keepOrder_34 rfl (lv_at hl 0 rfl) ?_
  refine f_X5_17 X hp dX5_keepOrder_35 ?_
  refine lv_iconst (v := (nI 0)) hx hb dX5_keepOrder_38 (by decide) ?_
  refine lv_aload_n hx hb dX5_keepOrder_39 rfl (lv_at hl 0 rfl) ?_
  refine f_X5_21 X hp dX5_keepOrder_40 ?_
  refine lv_iconst (v := (nI 0)) hx hb dX5_keepOrder_43 (by decide) ?_
  refine lv_bipush (v := (nI 7)) hx hb dX5_keepOrder_44 (by decide) ?_
  obtain ⟨hy5, hy6, hy7, hy8, hy9, h⟩ := h
  refine cp_i X hp ar_s310 ar_s311 tw_ml_X5_91 hl.1 hy5 hy6 hy7 hy8 hy9 ⟨Nat.le_of_ble_eq_true rfl, Nat.le_of_ble_eq_true rfl⟩ dX5_keepOrder_46 (fun H locs hp => ?_)
  obtain ⟨I10, e11⟩ : ∃ y, y = va_up I3 311 (va_cpy (I3 310) (I3 311) (nI 0).toNatClampNeg (nI 0).toNatClampNeg (nI 7).toNatClampNeg) := ⟨_, rfl⟩
  have hp : PP E s H locs I10 := by rw [e11]; exact hp
  have h := h I10 e11
  exact rt_v X hp h dX5_keepOrder_49
def wp_X5_keepOrder (x1 : Int32) (x2 : Int32) (I : II) (Q : II → Prop) : Prop := (((I 308 6) < x1 → (wp_X5_keepOrder_24 Q x1 x2 I)) ∧ (¬ (I 308 6) < x1 → ((¬ x1 = (I 308 6) → (Q I)) ∧ (x1 = (I 308 6) → ((x2 ≤ (I 308 7) → (Q I)) ∧ (¬ x2 ≤ (I 308 7) → (wp_X5_keepOrder_24 Q x1 x2 I)))))))
set_option maxHeartbeats 4000000 in
set_option maxRecDepth 100000 in
theorem w_X5_keepOrder_0 {E : EE} {p : Program} {l : Launch} {e : Env} {s : State} {m : MethodId} {args : Array Value} {below : List Frame} {meth : Method} {c : Code} {Q : II → Prop} (X : CX E p s m args meth c cX5_keepOrder 3 none RX5) : ∀ (x1 : Int32) (x2 : Int32) (I : II) (H : Heap) (locs : List Loc) (ls : Array Slot), wp_X5_keepOrder x1 x2 I Q → PP E s H locs I → lv_has ls 3 [(0, .ref (E.2.1 308)), (1, .int x1), (2, .int x2)] → W p l e rmX5_keepOrder s m args below meth c H locs 0 0 (MQ below (va_Qv Q (BU E) E.2.2.2.1) args s 0 0 E.2.2.2.1) (F0 m 0 ls []) := by
  obtain ⟨⟨hx, hb, hml, hown, hts⟩, hr, hlk, hK, hST, hN⟩ := id X
  intro x1 x2 I H locs ls h hp hl
  unfold wp_X5_keepOrder at h
  refine lv_iload_n hx hb dX5_keepOrder_0 rfl (lv_at hl 1 rfl) ?_
  refine lv_aload_n hx hb dX5_keepOrder_1 rfl (lv_at hl 0 rfl) ?_
  refine f_X5_61 X hp dX5_keepOrder_2 ?_
  refine lv_icmp_gt (tgt := 24) hx hb dX5_keepOrder_5 (by decide) (fun c1 => ?_) (fun c1 => ?_)
  · have h := h.1 c1
    exact w_X5_keepOrder_24 X  _ _ _ _ _ _ h hp (lv_sub hl [0, 1, 2] rfl)
  · have h := h.2 c1
    refine lv_iload_n hx hb dX5_keepOrder_8 rfl (lv_at hl 1 rfl) ?_
    refine lv_aload_n hx hb dX5_keepOrder_9 rfl (lv_at hl 0 rfl) ?_
    refine f_X5_61 X hp dX5_keepOrder_10 ?_
    refine lv_icmp_ne (tgt := 49) hx hb dX5_keepOrder_13 (by decide) (fun c2 => ?_) (fun c2 => ?_)
    · have h := h.1 c2
      exact rt_v X hp h dX5_keepOrder_49
    · have h := h.2 c2
      refine lv_iload_n hx hb dX5_keepOrder_16 rfl (lv_at hl 2 rfl) ?_
      refine lv_aload_n hx hb dX5_keepOrder_17 rfl (lv_at hl 0 rfl) ?_
      refine f_X5_64 X hp dX5_keepOrder_18 ?_
      refine lv_icmp_le (tgt := 49) hx hb dX5_keepOrder_21 (by decide) (fun c3 => ?_) (fun c3 => ?_)
      · have h := h.1 c3
        exact rt_v X hp h dX5_keepOrder_49
      · have h := h.2 c3
        exact w_X5_keepOrder_24 X  _ _ _ _ _ _ h hp (lv_sub hl [0, 1, 2] rfl)
set_option maxRecDepth 100000 in
theorem C_X5_keepOrder {E : EE} {l : Launch} {x1 : Int32} {x2 : Int32} {I : II} {Q : II → Prop} (h : wp_X5_keepOrder x1 x2 I Q) : Met l yX5_keepOrder (Cond.code yX5_keepOrder cX5_keepOrder 3 none :: lwT) rmX5_keepOrder (va_Pc [.ref (E.2.1 308), .int x1, .int x2] (PU E I)) (va_Qv Q (BU E) E.2.2.2.1) 0 0 E.2.2.2.1 :=
  ofWalk [.ref (E.2.1 308), .int x1, .int x2] (by decide) tw_c_X5_keepOrder (Nat.le_of_ble_eq_true rfl) (fun p e s m below meth c ls X hp hl => w_X5_keepOrder_0 X _ _ _ _ _ _ h hp hl)
def rmdX5_tryOrders (d : Nat) : Room := { frames := 4 * d + 6, cells := 0, slots := 0, locals := 160 * d + 200 }
def rmX5_tryOrders (d : Nat) : Room := { frames := 4 * d + 10, cells := 0, slots := 0, locals := 160 * d + 360 }
theorem vf_X5_tryOrders : VF yX5_tryOrders RX5 cX5_tryOrders 7 none 2 := ⟨tw_in_X5, tw_im_X5_tryOrders, tw_se_X5_tryOrders, tw_c_X5_tryOrders, by decide, by decide, by decide +kernel⟩
def wp_X5_tryOrders_139 (rc : Int32 → Int32 → II → (II → Prop) → Prop) (Q : II → Prop) (k80 : Int32 → Int32 → Nat → Nat → Int32 → II → Prop) (x1 : Int32) (x2 : Int32) (b3 : Nat) (b5 : Nat) (x6 : Int32) (I : II) : Prop := (k80 x1 x2 b3 b5 (x6 + (nI 1)) I)
set_option maxHeartbeats 4000000 in
set_option maxRecDepth 100000 in
theorem w_X5_tryOrders_139 {E : EE} {p : Program} {l : Launch} {e : Env} {s : State} {m : MethodId} {args : Array Value} {below : List Frame} {meth : Method} {c : Code} {d : Nat} {rc : Int32 → Int32 → II → (II → Prop) → Prop} {Q : II → Prop} {k80 : Int32 → Int32 → Nat → Nat → Int32 → II → Prop} (X : CX E p s m args meth c cX5_tryOrders 7 none RX5) (RC : ∀ (x1 : Int32) (x2 : Int32) (I : II) (Q : II → Prop), rc x1 x2 I Q → Met l yX5_tryOrders (Cond.code yX5_tryOrders cX5_tryOrders 7 none :: lwT) (rmdX5_tryOrders d) (va_Pc [.ref (E.2.1 308), .int x1, .int x2] (PU E I)) (va_Qv Q (BU E) E.2.2.2.1) 0 0 E.2.2.2.1) (K80 : ∀ (x1 : Int32) (x2 : Int32) (b3 : Nat) (b5 : Nat) (x6 : Int32) (I : II) (H : Heap) (locs : List Loc) (ls : Array Slot), b3 < 37 → b5 < 37 → k80 x1 x2 b3 b5 x6 I → PP E s H locs I → lv_has ls 7 [(0, .ref (E.2.1 308)), (1, .int x1), (2, .int x2), (3, .ref (E.2.1 (8 * b3))), (5, .ref (E.2.1 (8 * b5))), (6, .int x6)] → W p l e (rmX5_tryOrders d) s m args below meth c H locs 0 0 (MQ below (va_Qv Q (BU E) E.2.2.2.1) args s 0 0 E.2.2.2.1) (F0 m 80 ls [])) : ∀ (x1 : Int32) (x2 : Int32) (b3 : Nat) (b5 : Nat) (x6 : Int32) (I : II) (H : Heap) (locs : List Loc) (ls : Array Slot), b3 < 37 → b5 < 37 → wp_X5_tryOrders_139 rc Q k80 x1 x2 b3 b5 x6 I → PP E s H locs I → lv_has ls 7 [(0, .ref (E.2.1 308)), (1, .int x1), (2, .int x2), (3, .ref (E.2.1 (8 * b3))), (5, .ref (E.2.1 (8 * b5))), (6, .int x6)] → W p l e (rmX5_tryOrders d) s m args below meth c H locs 0 0 (MQ below (va_Qv Q (BU E) E.2.2.2.1) args s 0 0 E.2.2.2.1) (F0 m 139 ls []) := by
  obtain ⟨⟨hx, hb, hml, hown, hts⟩, hr, hlk, hK, hST, hN⟩ := id X
  intro x1 x2 b3 b5 x6 I H locs ls hb3 hb5 h hp hl
  unfold wp_X5_tryOrders_139 at h
  refine lv_iinc (v := (x6 + (nI 1))) (lv' := [(6, .int (x6 + (nI 1))), (0, .ref (E.2.1 308)), (1, .int x1), (2, .int x2), (3, .ref (E.2.1 (8 * b3))), (5, .ref (E.2.1 (8 * b5)))]) hx hb dX5_tryOrders_139 hl (k := 5) rfl rfl (by decide) rfl (fun ls hl => ?_)
  refine lv_goto (tgt := 80) hx hb dX5_tryOrders_142 (by decide) ?_
  exact K80 _ _ _ _ _ _ _ _ _ hb3 hb5 h hp (lv_sub hl [1, 2, 3, 4, 5, 0] rfl)
def wp_X5_tryOrders_80 (rc : Int32 → Int32 → II → (II → Prop) → Prop) (Q : II → Prop) (k145 : II → Prop) : Nat → Int32 → Int32 → Nat → Nat → Int32 → II → Prop
  | 0, _, _, _, _, _, _ => False
  | n + 1, x1, x2, b3, b5, x6, I => (((nI 7) ≤ x6 → (k145 I)) ∧ (¬ (nI 7) ≤ x6 → ((¬ ((x2 >>> (x6 &&& 31)) &&& (nI 1)) = (nI 1) → (wp_X5_tryOrders_139 rc Q (fun x1 x2 b3 b5 x6 I => wp_X5_tryOrders_80 rc Q k145 n x1 x2 b3 b5 x6 I) x1 x2 b3 b5 x6 I)) ∧ (((x2 >>> (x6 &&& 31)) &&& (nI 1)) = (nI 1) → (wp_X1_takeCourse b5 b3 I (fun I3 => (wp_X1_attend b5 x6 I3 (fun r6 I5 => (wp_X1_endTurn b5 I5 (fun I7 => (vp_in x1 7 ∧ ∀ I10 : II, I10 = su I7 310 x1.toNatClampNeg x6 → (rc (x1 + (nI 1)) (x2 &&& (((nI 1) <<< (x6 &&& 31)) ^^^ (-nI 1))) I10 (fun I12 => (wp_X5_tryOrders_139 rc Q (fun x1 x2 b3 b5 x6 I => wp_X5_tryOrders_80 rc Q k145 n x1 x2 b3 b5 x6 I) x1 x2 b3 b5 x6 I12))))))))))))))
set_option maxHeartbeats 4000000 in
set_option maxRecDepth 100000 in
theorem w_X5_tryOrders_80 {E : EE} {p : Program} {l : Launch} {e : Env} {s : State} {m : MethodId} {args : Array Value} {below : List Frame} {meth : Method} {c : Code} {d : Nat} {rc : Int32 → Int32 → II → (II → Prop) → Prop} {Q : II → Prop} {k145 : II → Prop} (X : CX E p s m args meth c cX5_tryOrders 7 none RX5) (RC : ∀ (x1 : Int32) (x2 : Int32) (I : II) (Q : II → Prop), rc x1 x2 I Q → Met l yX5_tryOrders (Cond.code yX5_tryOrders cX5_tryOrders 7 none :: lwT) (rmdX5_tryOrders d) (va_Pc [.ref (E.2.1 308), .int x1, .int x2] (PU E I)) (va_Qv Q (BU E) E.2.2.2.1) 0 0 E.2.2.2.1) (K145 : ∀ (I : II) (H : Heap) (locs : List Loc) (ls : Array Slot), k145 I → PP E s H locs I → lv_has ls 7 [] → W p l e (rmX5_tryOrders d) s m args below meth c H locs 0 0 (MQ below (va_Qv Q (BU E) E.2.2.2.1) args s 0 0 E.2.2.2.1) (F0 m 145 ls [])) : ∀ (n : Nat) (x1 : Int32) (x2 : Int32) (b3 : Nat) (b5 : Nat) (x6 : Int32) (I : II) (H : Heap) (locs : List Loc) (ls : Array Slot), b3 < 37 → b5 < 37 → wp_X5_tryOrders_80 rc Q k145 n x1 x2 b3 b5 x6 I → PP E s H locs I → lv_has ls 7 [(0, .ref (E.2.1 308)), (1, .int x1), (2, .int x2), (3, .ref (E.2.1 (8 * b3))), (5, .ref (E.2.1 (8 * b5))), (6, .int x6)] → W p l e (rmX5_tryOrders d) s m args below meth c H locs 0 0 (MQ below (va_Qv Q (BU E) E.2.2.2.1) args s 0 0 E.2.2.2.1) (F0 m 80 ls []) := by
  obtain ⟨⟨hx, hb, hml, hown, hts⟩, hr, hlk, hK, hST, hN⟩ := id X
  intro n
  induction n with
  | zero =>
    intro x1 x2 b3 b5 x6 I H locs ls hb3 hb5 h hp hl
    exact False.elim h
  | succ n ih =>
    intro x1 x2 b3 b5 x6 I H locs ls hb3 hb5 h hp hl
    rw [wp_X5_tryOrders_80.eq_2] at h
    refine lv_iload hx hb dX5_tryOrders_80 (lv_at hl 5 rfl) ?_
    refine lv_bipush (v := (nI 7)) hx hb dX5_tryOrders_82 (by decide) ?_
    refine lv_icmp_ge (tgt := 145) hx hb dX5_tryOrders_84 (by decide) (fun c1 => ?_) (fun c1 => ?_)
    · have h := h.1 c1
      exact K145 _ _ _ _ h hp (lv_sub hl [] rfl)
    · have h := h.2 c1
      refine lv_iload_n hx hb dX5_tryOrders_87 rfl (lv_at hl 2 rfl) ?_
      refine lv_iload hx hb dX5_tryOrders_88 (lv_at hl 5 rfl) ?_
      refine lv_ishr hx hb dX5_tryOrders_90 ?_
      refine lv_iconst (v := (nI 1)) hx hb dX5_tryOrders_91 (by decide) ?_
      refine lv_iand hx hb dX5_tryOrders_92 ?_
      refine lv_iconst (v := (nI 1)) hx hb dX5_tryOrders_93 (by decide) ?_
      refine lv_icmp_ne (tgt := 139) hx hb dX5_tryOrders_94 (by decide) (fun c2 => ?_) (fun c2 => ?_)
      · have h := h.1 c2
        exact w_X5_tryOrders_139 X RC ih _ _ _ _ _ _ _ _ _ hb3 hb5 h hp (lv_sub hl [0, 1, 2, 3, 4, 5] rfl)
      · have h := h.2 c2
        refine lv_aload hx hb dX5_tryOrders_97 (lv_at hl 4 rfl) ?_
        refine lv_aload_n hx hb dX5_tryOrders_99 rfl (lv_at hl 3 rfl) ?_
        refine kv (kV (As := [.ref (E.2.1 (8 * b3))]) (rest := []) X hp (C_X1_takeCourse hb5 hb3 h) tw_ml_X5_81 vf_X1_takeCourse ⟨rfl, rfl, by simp only [rmX5_tryOrders, rmdX5_tryOrders, rmX1_takeCourse]; omega, by simp only [rmX5_tryOrders, rmdX5_tryOrders, rmX1_takeCourse]; omega⟩ (pr_rcvb X hp hb5) rfl hl.1 rfl (Nat.le_of_ble_eq_true rfl) dX5_tryOrders_100) hp (fun I3 H locs h hp => ?_)
        refine lv_aload hx hb dX5_tryOrders_103 (lv_at hl 4 rfl) ?_
        refine lv_iload hx hb dX5_tryOrders_105 (lv_at hl 5 rfl) ?_
        refine ki (kV (As := [.int x6]) (rest := []) X hp (C_X1_attend hb5 h) tw_ml_X5_84 vf_X1_attend ⟨rfl, rfl, by simp only [rmX5_tryOrders, rmdX5_tryOrders, rmX1_attend]; omega, by simp only [rmX5_tryOrders, rmdX5_tryOrders, rmX1_attend]; omega⟩ (pr_rcvb X hp hb5) rfl hl.1 rfl (Nat.le_of_ble_eq_true rfl) dX5_tryOrders_107) hp (fun r6 I5 H locs h hp => ?_)
        refine lv_pop hx hb dX5_tryOrders_110 rfl ?_
        refine lv_aload hx hb dX5_tryOrders_111 (lv_at hl 4 rfl) ?_
        refine kv (kV (As := []) (rest := []) X hp (C_X1_endTurn hb5 h) tw_ml_X5_88 vf_X1_endTurn ⟨rfl, rfl, by simp only [rmX5_tryOrders, rmdX5_tryOrders, rmX1_endTurn]; omega, by simp only [rmX5_tryOrders, rmdX5_tryOrders, rmX1_endTurn]; omega⟩ (pr_rcvb X hp hb5) rfl hl.1 rfl (Nat.le_of_ble_eq_true rfl) dX5_tryOrders_113) hp (fun I7 H locs h hp => ?_)
        refine lv_aload_n hx hb dX5_tryOrders_116 rfl (lv_at hl 0 rfl) ?_
        refine f_X5_17 X hp dX5_tryOrders_117 ?_
        refine lv_iload_n hx hb dX5_tryOrders_120 rfl (lv_at hl 1 rfl) ?_
        refine lv_iload hx hb dX5_tryOrders_121 (lv_at hl 5 rfl) ?_
        have hv9 := h.1
        have h := h.2
        refine as_i X hp ar_s310 hv9 dX5_tryOrders_123 (fun H locs hp => ?_)
        obtain ⟨I10, e11⟩ : ∃ y, y = su I7 310 x1.toNatClampNeg x6 := ⟨_, rfl⟩
        have hp : PP E s H locs I10 := by rw [e11]; exact hp
        have h := h I10 e11
        refine lv_aload_n hx hb dX5_tryOrders_124 rfl (lv_at hl 0 rfl) ?_
        refine lv_iload_n hx hb dX5_tryOrders_125 rfl (lv_at hl 1 rfl) ?_
        refine lv_iconst (v := (nI 1)) hx hb dX5_tryOrders_126 (by decide) ?_
        refine lv_iadd hx hb dX5_tryOrders_127 ?_
        refine lv_iload_n hx hb dX5_tryOrders_128 rfl (lv_at hl 2 rfl) ?_
        refine lv_iconst (v := (nI 1)) hx hb dX5_tryOrders_129 (by decide) ?_
        refine lv_iload hx hb dX5_tryOrders_130 (lv_at hl 5 rfl) ?_
        refine lv_ishl hx hb dX5_tryOrders_132 ?_
        refine lv_iconst (v := (-nI 1)) hx hb dX5_tryOrders_133 (by decide) ?_
        refine lv_ixor hx hb dX5_tryOrders_134 ?_
        refine lv_iand hx hb dX5_tryOrders_135 ?_
        refine kv (kV (As := [.int (x1 + (nI 1)), .int (x2 &&& (((nI 1) <<< (x6 &&& 31)) ^^^ (-nI 1)))]) (rest := []) X hp (RC _ _ _ _ h) tw_ml_X5_71 vf_X5_tryOrders ⟨rfl, rfl, by simp only [rmX5_tryOrders, rmdX5_tryOrders]; omega, by simp only [rmX5_tryOrders, rmdX5_tryOrders]; omega⟩ (pr_rcv X hp (k := 308) (by decide) (ob_308 _) (q := (RX5, TX5, 11)) rfl) rfl hl.1 rfl (Nat.le_of_ble_eq_true rfl) dX5_tryOrders_136) hp (fun I12 H locs h hp => ?_)
        exact w_X5_tryOrders_139 X RC ih _ _ _ _ _ _ _ _ _ hb3 hb5 h hp (lv_sub hl [0, 1, 2, 3, 4, 5] rfl)
def wp_X5_tryOrders (rc : Int32 → Int32 → II → (II → Prop) → Prop) (x1 : Int32) (x2 : Int32) (I : II) (Q : II → Prop) : Prop := ((x1 < 0 → (Q I)) ∧ (¬ x1 < 0 → ((x1 ≤ (I 308 4) → (vp_in x1 8 ∧ ((¬ x1 = (I 308 4) → (((I 308 6) ≤ ((((I (8 * (29 + x1.toNatClampNeg)) 5) - (I 308 5)) + (I 308 4)) - x1) → (vp_in (x1 + (nI 1)) 8 ∧ (∃ n57, wp_X5_tryOrders_80 rc Q (fun I => (Q I)) n57 x1 x2 (29 + x1.toNatClampNeg) (29 + (x1 + (nI 1)).toNatClampNeg) (nI 0) I))) ∧ (¬ (I 308 6) ≤ ((((I (8 * (29 + x1.toNatClampNeg)) 5) - (I 308 5)) + (I 308 4)) - x1) → (Q I)))) ∧ (x1 = (I 308 4) → (wp_X1_leftTogether (29 + x1.toNatClampNeg) I (fun r59 I58 => (wp_X5_keepOrder ((I (8 * (29 + x1.toNatClampNeg)) 5) - (I 308 5)) r59 I58 (fun I60 => (Q I60))))))))) ∧ (¬ x1 ≤ (I 308 4) → (Q I)))))
set_option maxHeartbeats 4000000 in
set_option maxRecDepth 100000 in
theorem w_X5_tryOrders_0 {E : EE} {p : Program} {l : Launch} {e : Env} {s : State} {m : MethodId} {args : Array Value} {below : List Frame} {meth : Method} {c : Code} {d : Nat} {rc : Int32 → Int32 → II → (II → Prop) → Prop} {Q : II → Prop} (X : CX E p s m args meth c cX5_tryOrders 7 none RX5) (RC : ∀ (x1 : Int32) (x2 : Int32) (I : II) (Q : II → Prop), rc x1 x2 I Q → Met l yX5_tryOrders (Cond.code yX5_tryOrders cX5_tryOrders 7 none :: lwT) (rmdX5_tryOrders d) (va_Pc [.ref (E.2.1 308), .int x1, .int x2] (PU E I)) (va_Qv Q (BU E) E.2.2.2.1) 0 0 E.2.2.2.1) : ∀ (x1 : Int32) (x2 : Int32) (I : II) (H : Heap) (locs : List Loc) (ls : Array Slot), wp_X5_tryOrders rc x1 x2 I Q → PP E s H locs I → lv_has ls 7 [(0, .ref (E.2.1 308)), (1, .int x1), (2, .int x2)] → W p l e (rmX5_tryOrders d) s m args below meth c H locs 0 0 (MQ below (va_Qv Q (BU E) E.2.2.2.1) args s 0 0 E.2.2.2.1) (F0 m 0 ls []) := by
  obtain ⟨⟨hx, hb, hml, hown, hts⟩, hr, hlk, hK, hST, hN⟩ := id X
  intro x1 x2 I H locs ls h hp hl
  unfold wp_X5_tryOrders at h
  refine lv_iload_n hx hb dX5_tryOrders_0 rfl (lv_at hl 1 rfl) ?_
  refine lv_if_lt (tgt := 12) hx hb dX5_tryOrders_1 (by decide) (fun c1 => ?_) (fun c1 => ?_)
  · have h := h.1 c1
    exact rt_v X hp h dX5_tryOrders_12
  · have h := h.2 c1
    refine lv_iload_n hx hb dX5_tryOrders_4 rfl (lv_at hl 1 rfl) ?_
    refine lv_aload_n hx hb dX5_tryOrders_5 rfl (lv_at hl 0 rfl) ?_
    refine f_X5_45 X hp dX5_tryOrders_6 ?_
    refine lv_icmp_le (tgt := 13) hx hb dX5_tryOrders_9 (by decide) (fun c2 => ?_) (fun c2 => ?_)
    · have h := h.1 c2
      refine lv_aload_n hx hb dX5_tryOrders_13 rfl (lv_at hl 0 rfl) ?_
      refine f_X5_11 X hp dX5_tryOrders_14 ?_
      refine lv_iload_n hx hb dX5_tryOrders_17 rfl (lv_at hl 1 rfl) ?_
      have hv3 := h.1
      have h := h.2
      refine al_a X hp ba_309 hv3 dX5_tryOrders_18 ?_
      refine lv_astore_n (lv' := [(3, .ref (E.2.1 (8 * (29 + x1.toNatClampNeg)))), (0, .ref (E.2.1 308)), (1, .int x1), (2, .int x2)]) hx hb dX5_tryOrders_19 rfl hl (by decide) rfl (fun ls hl => ?_)
      refine lv_aload_n hx hb dX5_tryOrders_20 rfl (lv_at hl 0 rfl) ?_
      refine f_X5_48 X hp (bk_29 hv3) dX5_tryOrders_21 ?_
      refine lv_aload_n hx hb dX5_tryOrders_24 rfl (lv_at hl 1 rfl) ?_
      refine f_X5_51 X hp dX5_tryOrders_25 ?_
      refine lv_isub hx hb dX5_tryOrders_28 ?_
      refine lv_istore (lv' := [(4, .int ((I (8 * (29 + x1.toNatClampNeg)) 5) - (I 308 5))), (3, .ref (E.2.1 (8 * (29 + x1.toNatClampNeg)))), (0, .ref (E.2.1 308)), (1, .int x1), (2, .int x2)]) hx hb dX5_tryOrders_29 hl (by decide) rfl (fun ls hl => ?_)
      refine lv_iload_n hx hb dX5_tryOrders_31 rfl (lv_at hl 3 rfl) ?_
      refine lv_aload_n hx hb dX5_tryOrders_32 rfl (lv_at hl 2 rfl) ?_
      refine f_X5_45 X hp dX5_tryOrders_33 ?_
      refine lv_icmp_ne (tgt := 50) hx hb dX5_tryOrders_36 (by decide) (fun c4 => ?_) (fun c4 => ?_)
      · have h := h.1 c4
        refine lv_iload hx hb dX5_tryOrders_50 (lv_at hl 0 rfl) ?_
        refine lv_aload_n hx hb dX5_tryOrders_52 rfl (lv_at hl 2 rfl) ?_
        refine f_X5_45 X hp dX5_tryOrders_53 ?_
        refine lv_iadd hx hb dX5_tryOrders_56 ?_
        refine lv_iload_n hx hb dX5_tryOrders_57 rfl (lv_at hl 3 rfl) ?_
        refine lv_isub hx hb dX5_tryOrders_58 ?_
        refine lv_aload_n hx hb dX5_tryOrders_59 rfl (lv_at hl 2 rfl) ?_
        refine f_X5_61 X hp dX5_tryOrders_60 ?_
        refine lv_icmp_ge (tgt := 67) hx hb dX5_tryOrders_63 (by decide) (fun c5 => ?_) (fun c5 => ?_)
        · have h := h.1 c5
          refine lv_aload_n hx hb dX5_tryOrders_67 rfl (lv_at hl 2 rfl) ?_
          refine f_X5_11 X hp dX5_tryOrders_68 ?_
          refine lv_iload_n hx hb dX5_tryOrders_71 rfl (lv_at hl 3 rfl) ?_
          refine lv_iconst (v := (nI 1)) hx hb dX5_tryOrders_72 (by decide) ?_
          refine lv_iadd hx hb dX5_tryOrders_73 ?_
          have hv6 := h.1
          have h := h.2
          refine al_a X hp ba_309 hv6 dX5_tryOrders_74 ?_
          refine lv_astore (lv' := [(5, .ref (E.2.1 (8 * (29 + (x1 + (nI 1)).toNatClampNeg)))), (4, .int ((I (8 * (29 + x1.toNatClampNeg)) 5) - (I 308 5))), (3, .ref (E.2.1 (8 * (29 + x1.toNatClampNeg)))), (0, .ref (E.2.1 308)), (1, .int x1), (2, .int x2)]) hx hb dX5_tryOrders_75 hl (by decide) rfl (fun ls hl => ?_)
          refine lv_iconst (v := (nI 0)) hx hb dX5_tryOrders_77 (by decide) ?_
          refine lv_istore (lv' := [(6, .int (nI 0)), (5, .ref (E.2.1 (8 * (29 + (x1 + (nI 1)).toNatClampNeg)))), (4, .int ((I (8 * (29 + x1.toNatClampNeg)) 5) - (I 308 5))), (3, .ref (E.2.1 (8 * (29 + x1.toNatClampNeg)))), (0, .ref (E.2.1 308)), (1, .int x1), (2, .int x2)]) hx hb dX5_tryOrders_78 hl (by decide) rfl (fun ls hl => ?_)
          obtain ⟨n57, h⟩ := h
          refine w_X5_tryOrders_80 X RC ?_ n57 _ _ _ _ _ _ _ _ _ (bk_29 hv3) (bk_29 hv6) h hp (lv_sub hl [4, 5, 6, 3, 1, 0] rfl)
          · intro I H locs ls h hp hl
            exact rt_v X hp h dX5_tryOrders_145
        · have h := h.2 c5
          exact rt_v X hp h dX5_tryOrders_66
      · have h := h.2 c4
        refine lv_aload_n hx hb dX5_tryOrders_39 rfl (lv_at hl 2 rfl) ?_
        refine lv_iload hx hb dX5_tryOrders_40 (lv_at hl 0 rfl) ?_
        refine lv_aload_n hx hb dX5_tryOrders_42 rfl (lv_at hl 1 rfl) ?_
        refine ki (kV (As := []) (rest := [.int ((I (8 * (29 + x1.toNatClampNeg)) 5) - (I 308 5)), .ref (E.2.1 308)]) X hp (C_X1_leftTogether (bk_29 hv3) h) tw_ml_X5_75 vf_X1_leftTogether ⟨rfl, rfl, by simp only [rmX5_tryOrders, rmdX5_tryOrders, rmX1_leftTogether]; omega, by simp only [rmX5_tryOrders, rmdX5_tryOrders, rmX1_leftTogether]; omega⟩ (pr_rcvb X hp (bk_29 hv3)) rfl hl.1 rfl (Nat.le_of_ble_eq_true rfl) dX5_tryOrders_43) hp (fun r59 I58 H locs h hp => ?_)
        refine kv (kV (As := [.int ((I (8 * (29 + x1.toNatClampNeg)) 5) - (I 308 5)), .int r59]) (rest := []) X hp (C_X5_keepOrder  h) tw_ml_X5_78 vf_X5_keepOrder ⟨rfl, rfl, by simp only [rmX5_tryOrders, rmdX5_tryOrders, rmX5_keepOrder]; omega, by simp only [rmX5_tryOrders, rmdX5_tryOrders, rmX5_keepOrder]; omega⟩ (pr_rcv X hp (k := 308) (by decide) (ob_308 _) (q := (RX5, TX5, 11)) rfl) rfl hl.1 rfl (Nat.le_of_ble_eq_true rfl) dX5_tryOrders_46) hp (fun I60 H locs h hp => ?_)
        exact rt_v X hp h dX5_tryOrders_49
    · have h := h.2 c2
      exact rt_v X hp h dX5_tryOrders_12
set_option maxRecDepth 100000 in
theorem C_X5_tryOrders {E : EE} {l : Launch} {d : Nat} {rc : Int32 → Int32 → II → (II → Prop) → Prop} (RC : ∀ (x1 : Int32) (x2 : Int32) (I : II) (Q : II → Prop), rc x1 x2 I Q → Met l yX5_tryOrders (Cond.code yX5_tryOrders cX5_tryOrders 7 none :: lwT) (rmdX5_tryOrders d) (va_Pc [.ref (E.2.1 308), .int x1, .int x2] (PU E I)) (va_Qv Q (BU E) E.2.2.2.1) 0 0 E.2.2.2.1) {x1 : Int32} {x2 : Int32} {I : II} {Q : II → Prop} (h : wp_X5_tryOrders rc x1 x2 I Q) : Met l yX5_tryOrders (Cond.code yX5_tryOrders cX5_tryOrders 7 none :: lwT) (rmX5_tryOrders d) (va_Pc [.ref (E.2.1 308), .int x1, .int x2] (PU E I)) (va_Qv Q (BU E) E.2.2.2.1) 0 0 E.2.2.2.1 :=
  ofWalk [.ref (E.2.1 308), .int x1, .int x2] (by decide) tw_c_X5_tryOrders (Nat.le_of_ble_eq_true rfl) (fun p e s m below meth c ls X hp hl => w_X5_tryOrders_0 X RC _ _ _ _ _ _ h hp hl)
def wpd_X5_tryOrders : Nat → Int32 → Int32 → II → (II → Prop) → Prop
  | 0, _, _, _, _ => False
  | d + 1, x1, x2, I, Q => wp_X5_tryOrders (wpd_X5_tryOrders d) x1 x2 I Q
theorem CR_X5_tryOrders {E : EE} {l : Launch} : ∀ (d : Nat), ∀ (x1 : Int32) (x2 : Int32) (I : II) (Q : II → Prop), wpd_X5_tryOrders d x1 x2 I Q → Met l yX5_tryOrders (Cond.code yX5_tryOrders cX5_tryOrders 7 none :: lwT) (rmdX5_tryOrders d) (va_Pc [.ref (E.2.1 308), .int x1, .int x2] (PU E I)) (va_Qv Q (BU E) E.2.2.2.1) 0 0 E.2.2.2.1 := by
  intro d
  induction d with
  | zero => intro x1 x2 I Q h; exact False.elim h
  | succ d ih => intro x1 x2 I Q h; exact C_X5_tryOrders ih  h
abbrev rmX5_findOrder : Room := { frames := 49, cells := 0, slots := 0, locals := 1906 }
theorem vf_X5_findOrder : VF yX5_findOrder RX5 cX5_findOrder 2 none 1 := ⟨tw_in_X5, tw_im_X5_findOrder, tw_se_X5_findOrder, tw_c_X5_findOrder, by decide, by decide, by decide +kernel⟩
def wp_X5_findOrder (j : Nat) (I : II) (Q : II → Prop) : Prop := (((I 308 9) = 0 → (wp_X5_makeReady j I (fun I2 => (∀ I4 : II, I4 = su I2 308 6 (-nI 1) → (∀ I6 : II, I6 = su I4 308 7 (-nI 1) → (wp_X1_queuedBits j I6 (fun r9 I8 => (wpd_X5_tryOrders 10 (nI 0) r9 I8 (fun I10 => (∀ I12 : II, I12 = su I10 308 9 (nI 1) → (Q I12))))))))))) ∧ (¬ (I 308 9) = 0 → (Q I)))
set_option maxHeartbeats 4000000 in
set_option maxRecDepth 100000 in
theorem w_X5_findOrder_0 {E : EE} {p : Program} {l : Launch} {e : Env} {s : State} {m : MethodId} {args : Array Value} {below : List Frame} {meth : Method} {c : Code} {Q : II → Prop} (X : CX E p s m args meth c cX5_findOrder 2 none RX5) {j : Nat} (hj : j < 37) : ∀ (I : II) (H : Heap) (locs : List Loc) (ls : Array Slot), wp_X5_findOrder j I Q → PP E s H locs I → lv_has ls 2 [(0, .ref (E.2.1 308)), (1, .ref (E.2.1 (8 * j)))] → W p l e rmX5_findOrder s m args below meth c H locs 0 0 (MQ below (va_Qv Q (BU E) E.2.2.2.1) args s 0 0 E.2.2.2.1) (F0 m 0 ls []) := by
  obtain ⟨⟨hx, hb, hml, hown, hts⟩, hr, hlk, hK, hST, hN⟩ := id X
  intro I H locs ls h hp hl
  unfold wp_X5_findOrder at h
  refine lv_aload_n hx hb dX5_findOrder_0 rfl (lv_at hl 0 rfl) ?_
  refine f_X5_28 X hp dX5_findOrder_1 ?_
  refine lv_if_eq (tgt := 8) hx hb dX5_findOrder_4 (by decide) (fun c1 => ?_) (fun c1 => ?_)
  · have h := h.1 c1
    refine lv_aload_n hx hb dX5_findOrder_8 rfl (lv_at hl 0 rfl) ?_
    refine lv_aload_n hx hb dX5_findOrder_9 rfl (lv_at hl 1 rfl) ?_
    refine kv (kV (As := [.ref (E.2.1 (8 * j))]) (rest := []) X hp (C_X5_makeReady hj h) tw_ml_X5_58 vf_X5_makeReady ⟨rfl, rfl, Nat.le_of_ble_eq_true rfl, Nat.le_of_ble_eq_true rfl⟩ (pr_rcv X hp (k := 308) (by decide) (ob_308 _) (q := (RX5, TX5, 11)) rfl) rfl hl.1 rfl (Nat.le_of_ble_eq_true rfl) dX5_findOrder_10) hp (fun I2 H locs h hp => ?_)
    refine lv_aload_n hx hb dX5_findOrder_13 rfl (lv_at hl 0 rfl) ?_
    refine lv_iconst (v := (-nI 1)) hx hb dX5_findOrder_14 (by decide) ?_
    refine g_X5_61 X hp dX5_findOrder_15 (fun H locs hp => ?_)
    obtain ⟨I4, e5⟩ : ∃ y, y = su I2 308 6 (-nI 1) := ⟨_, rfl⟩
    have hp : PP E s H locs I4 := by rw [e5]; exact hp
    have h := h I4 e5
    refine lv_aload_n hx hb dX5_findOrder_18 rfl (lv_at hl 0 rfl) ?_
    refine lv_iconst (v := (-nI 1)) hx hb dX5_findOrder_19 (by decide) ?_
    refine g_X5_64 X hp dX5_findOrder_20 (fun H locs hp => ?_)
    obtain ⟨I6, e7⟩ : ∃ y, y = su I4 308 7 (-nI 1) := ⟨_, rfl⟩
    have hp : PP E s H locs I6 := by rw [e7]; exact hp
    have h := h I6 e7
    refine lv_aload_n hx hb dX5_findOrder_23 rfl (lv_at hl 0 rfl) ?_
    refine lv_iconst (v := (nI 0)) hx hb dX5_findOrder_24 (by decide) ?_
    refine lv_aload_n hx hb dX5_findOrder_25 rfl (lv_at hl 1 rfl) ?_
    refine ki (kV (As := []) (rest := [.int (nI 0), .ref (E.2.1 308)]) X hp (C_X1_queuedBits hj h) tw_ml_X5_67 vf_X1_queuedBits ⟨rfl, rfl, Nat.le_of_ble_eq_true rfl, Nat.le_of_ble_eq_true rfl⟩ (pr_rcvb X hp hj) rfl hl.1 rfl (Nat.le_of_ble_eq_true rfl) dX5_findOrder_26) hp (fun r9 I8 H locs h hp => ?_)
    refine kv (kV (As := [.int (nI 0), .int r9]) (rest := []) X hp (CR_X5_tryOrders 10 _ _ _ _ h) tw_ml_X5_71 vf_X5_tryOrders ⟨rfl, rfl, Nat.le_of_ble_eq_true rfl, Nat.le_of_ble_eq_true rfl⟩ (pr_rcv X hp (k := 308) (by decide) (ob_308 _) (q := (RX5, TX5, 11)) rfl) rfl hl.1 rfl (Nat.le_of_ble_eq_true rfl) dX5_findOrder_29) hp (fun I10 H locs h hp => ?_)
    refine lv_aload_n hx hb dX5_findOrder_32 rfl (lv_at hl 0 rfl) ?_
    refine lv_iconst (v := (nI 1)) hx hb dX5_findOrder_33 (by decide) ?_
    refine g_X5_28 X hp (Or.inr rfl) dX5_findOrder_34 (fun H locs hp => ?_)
    obtain ⟨I12, e13⟩ : ∃ y, y = su I10 308 9 (nI 1) := ⟨_, rfl⟩
    have hp : PP E s H locs I12 := by rw [e13]; exact hp
    have h := h I12 e13
    exact rt_v X hp h dX5_findOrder_37
  · have h := h.2 c1
    exact rt_v X hp h dX5_findOrder_7
set_option maxRecDepth 100000 in
theorem C_X5_findOrder {E : EE} {l : Launch} {j : Nat} (hj : j < 37) {I : II} {Q : II → Prop} (h : wp_X5_findOrder j I Q) : Met l yX5_findOrder (Cond.code yX5_findOrder cX5_findOrder 2 none :: lwT) rmX5_findOrder (va_Pc [.ref (E.2.1 308), .ref (E.2.1 (8 * j))] (PU E I)) (va_Qv Q (BU E) E.2.2.2.1) 0 0 E.2.2.2.1 :=
  ofWalk [.ref (E.2.1 308), .ref (E.2.1 (8 * j))] (by decide) tw_c_X5_findOrder (Nat.le_of_ble_eq_true rfl) (fun p e s m below meth c ls X hp hl => w_X5_findOrder_0 X hj _ _ _ _ h hp hl)
abbrev rmX5_orderAt : Room := { frames := 0, cells := 0, slots := 0, locals := 0 }
theorem vf_X5_orderAt : VF yX5_orderAt RX5 cX5_orderAt 2 (some .int) 1 := ⟨tw_in_X5, tw_im_X5_orderAt, tw_se_X5_orderAt, tw_c_X5_orderAt, by decide, by decide, by decide +kernel⟩
def wp_X5_orderAt (x1 : Int32) (I : II) (Q : Int32 → II → Prop) : Prop := ((x1 < 0 → (Q (-nI 1000000) I)) ∧ (¬ x1 < 0 → (((I 308 4) ≤ x1 → (Q (-nI 1000000) I)) ∧ (¬ (I 308 4) ≤ x1 → (((nI 7) ≤ x1 → (Q (-nI 1000000) I)) ∧ (¬ (nI 7) ≤ x1 → (vp_in x1 7 ∧ (Q (I 311 x1.toNatClampNeg) I))))))))
set_option maxHeartbeats 4000000 in
set_option maxRecDepth 100000 in
theorem w_X5_orderAt_0 {E : EE} {p : Program} {l : Launch} {e : Env} {s : State} {m : MethodId} {args : Array Value} {below : List Frame} {meth : Method} {c : Code} {Q : Int32 → II → Prop} (X : CX E p s m args meth c cX5_orderAt 2 (some .int) RX5) : ∀ (x1 : Int32) (I : II) (H : Heap) (locs : List Loc) (ls : Array Slot), wp_X5_orderAt x1 I Q → PP E s H locs I → lv_has ls 2 [(0, .ref (E.2.1 308)), (1, .int x1)] → W p l e rmX5_orderAt s m args below meth c H locs 0 0 (MQ below (va_Qi Q (BU E) E.2.2.2.1) args s 0 0 E.2.2.2.1) (F0 m 0 ls []) := by
  obtain ⟨⟨hx, hb, hml, hown, hts⟩, hr, hlk, hK, hST, hN⟩ := id X
  intro x1 I H locs ls h hp hl
  unfold wp_X5_orderAt at h
  refine lv_iload_n hx hb dX5_orderAt_0 rfl (lv_at hl 1 rfl) ?_
  refine lv_if_lt (tgt := 27) hx hb dX5_orderAt_1 (by decide) (fun c1 => ?_) (fun c1 => ?_)
  · have h := h.1 c1
    refine lv_ldc (v := (-nI 1000000)) hx hb hown (hts _ tw_k_X5_97) dX5_orderAt_27 ?_
    exact rt_i X hp h dX5_orderAt_29
  · have h := h.2 c1
    refine lv_iload_n hx hb dX5_orderAt_4 rfl (lv_at hl 1 rfl) ?_
    refine lv_aload_n hx hb dX5_orderAt_5 rfl (lv_at hl 0 rfl) ?_
    refine f_X5_45 X hp dX5_orderAt_6 ?_
    refine lv_icmp_ge (tgt := 27) hx hb dX5_orderAt_9 (by decide) (fun c2 => ?_) (fun c2 => ?_)
    · have h := h.1 c2
      refine lv_ldc (v := (-nI 1000000)) hx hb hown (hts _ tw_k_X5_97) dX5_orderAt_27 ?_
      exact rt_i X hp h dX5_orderAt_29
    · have h := h.2 c2
      refine lv_iload_n hx hb dX5_orderAt_12 rfl (lv_at hl 1 rfl) ?_
      refine lv_bipush (v := (nI 7)) hx hb dX5_orderAt_13 (by decide) ?_
      refine lv_icmp_ge (tgt := 27) hx hb dX5_orderAt_15 (by decide) (fun c3 => ?_) (fun c3 => ?_)
      · have h := h.1 c3
        refine lv_ldc (v := (-nI 1000000)) hx hb hown (hts _ tw_k_X5_97) dX5_orderAt_27 ?_
        exact rt_i X hp h dX5_orderAt_29
      · have h := h.2 c3
        refine lv_aload_n hx hb dX5_orderAt_18 rfl (lv_at hl 0 rfl) ?_
        refine f_X5_21 X hp dX5_orderAt_19 ?_
        refine lv_iload_n hx hb dX5_orderAt_22 rfl (lv_at hl 1 rfl) ?_
        have hv4 := h.1
        have h := h.2
        refine al_i X hp ar_s311 hv4 dX5_orderAt_23 ?_
        refine lv_goto (tgt := 29) hx hb dX5_orderAt_24 (by decide) ?_
        exact rt_i X hp h dX5_orderAt_29
set_option maxRecDepth 100000 in
theorem C_X5_orderAt {E : EE} {l : Launch} {x1 : Int32} {I : II} {Q : Int32 → II → Prop} (h : wp_X5_orderAt x1 I Q) : Met l yX5_orderAt (Cond.code yX5_orderAt cX5_orderAt 2 (some .int) :: lwT) rmX5_orderAt (va_Pc [.ref (E.2.1 308), .int x1] (PU E I)) (va_Qi Q (BU E) E.2.2.2.1) 0 0 E.2.2.2.1 :=
  ofWalk [.ref (E.2.1 308), .int x1] (by decide) tw_c_X5_orderAt (Nat.le_of_ble_eq_true rfl) (fun p e s m below meth c ls X hp hl => w_X5_orderAt_0 X _ _ _ _ _ h hp hl)
abbrev rmX5_sumPaidIn : Room := { frames := 1, cells := 0, slots := 0, locals := 21 }
theorem sf_X5_sumPaidIn : SF yX5_sumPaidIn cX5_sumPaidIn 4 (some .int) 1 := ⟨tw_in_X5, tw_st_X5_sumPaidIn, tw_c_X5_sumPaidIn, by decide, by decide, by decide +kernel⟩
def wp_X5_sumPaidIn_36 (j : Nat) (Q : Int32 → II → Prop) (k4 : Int32 → Int32 → II → Prop) (x2 : Int32) (v0 : Int32) (v1 : Int32) (I : II) : Prop := (k4 (v1 + v0) (x2 + (nI 1)) I)
set_option maxHeartbeats 4000000 in
set_option maxRecDepth 100000 in
theorem w_X5_sumPaidIn_36 {E : EE} {p : Program} {l : Launch} {e : Env} {s : State} {m : MethodId} {args : Array Value} {below : List Frame} {meth : Method} {c : Code} {Q : Int32 → II → Prop} {k4 : Int32 → Int32 → II → Prop} (X : CX E p s m args meth c cX5_sumPaidIn 4 (some .int) RX5) {j : Nat} (hj : j < 37) (K4 : ∀ (x1 : Int32) (x2 : Int32) (I : II) (H : Heap) (locs : List Loc) (ls : Array Slot), k4 x1 x2 I → PP E s H locs I → lv_has ls 4 [(0, .ref (E.2.1 (8 * j))), (1, .int x1), (2, .int x2)] → W p l e rmX5_sumPaidIn s m args below meth c H locs 0 0 (MQ below (va_Qi Q (BU E) E.2.2.2.1) args s 0 0 E.2.2.2.1) (F0 m 4 ls [])) : ∀ (x2 : Int32) (v0 : Int32) (v1 : Int32) (I : II) (H : Heap) (locs : List Loc) (ls : Array Slot), wp_X5_sumPaidIn_36 j Q k4 x2 v0 v1 I → PP E s H locs I → lv_has ls 4 [(0, .ref (E.2.1 (8 * j))), (2, .int x2)] → W p l e rmX5_sumPaidIn s m args below meth c H locs 0 0 (MQ below (va_Qi Q (BU E) E.2.2.2.1) args s 0 0 E.2.2.2.1) (F0 m 36 ls [.int v0, .int v1]) := by
  obtain ⟨⟨hx, hb, hml, hown, hts⟩, hr, hlk, hK, hST, hN⟩ := id X
  intro x2 v0 v1 I H locs ls h hp hl
  unfold wp_X5_sumPaidIn_36 at h
  refine lv_iadd hx hb dX5_sumPaidIn_36 ?_
  refine lv_istore_n (lv' := [(1, .int (v1 + v0)), (0, .ref (E.2.1 (8 * j))), (2, .int x2)]) hx hb dX5_sumPaidIn_37 rfl hl (by decide) rfl (fun ls hl => ?_)
  refine lv_iinc (v := (x2 + (nI 1))) (lv' := [(2, .int (x2 + (nI 1))), (1, .int (v1 + v0)), (0, .ref (E.2.1 (8 * j)))]) hx hb dX5_sumPaidIn_38 hl (k := 2) rfl rfl (by decide) rfl (fun ls hl => ?_)
  refine lv_goto (tgt := 4) hx hb dX5_sumPaidIn_41 (by decide) ?_
  exact K4 _ _ _ _ _ _ h hp (lv_sub hl [2, 1, 0] rfl)
def wp_X5_sumPaidIn_4 (j : Nat) (Q : Int32 → II → Prop) (k44 : Int32 → II → Prop) : Nat → Int32 → Int32 → II → Prop
  | 0, _, _, _ => False
  | n + 1, x1, x2, I => (((I (8 * j) 7) ≤ x2 → (k44 x1 I)) ∧ (¬ (I (8 * j) 7) ≤ x2 → (wp_X1_paperAt j x2 I (fun r3 I2 => (wp_X1_isDrawing j r3 I2 (fun r5 I4 => ((r5 = 0 → (wp_X1_sumOf j r3 I4 (fun r8 I7 => (wp_X5_sumPaidIn_36 j Q (fun x1 x2 I => wp_X5_sumPaidIn_4 j Q k44 n x1 x2 I) x2 r8 x1 I7)))) ∧ (¬ r5 = 0 → (wp_X5_sumPaidIn_36 j Q (fun x1 x2 I => wp_X5_sumPaidIn_4 j Q k44 n x1 x2 I) x2 (nI 0) x1 I4)))))))))
set_option maxHeartbeats 4000000 in
set_option maxRecDepth 100000 in
theorem w_X5_sumPaidIn_4 {E : EE} {p : Program} {l : Launch} {e : Env} {s : State} {m : MethodId} {args : Array Value} {below : List Frame} {meth : Method} {c : Code} {Q : Int32 → II → Prop} {k44 : Int32 → II → Prop} (X : CX E p s m args meth c cX5_sumPaidIn 4 (some .int) RX5) {j : Nat} (hj : j < 37) (K44 : ∀ (x1 : Int32) (I : II) (H : Heap) (locs : List Loc) (ls : Array Slot), k44 x1 I → PP E s H locs I → lv_has ls 4 [(1, .int x1)] → W p l e rmX5_sumPaidIn s m args below meth c H locs 0 0 (MQ below (va_Qi Q (BU E) E.2.2.2.1) args s 0 0 E.2.2.2.1) (F0 m 44 ls [])) : ∀ (n : Nat) (x1 : Int32) (x2 : Int32) (I : II) (H : Heap) (locs : List Loc) (ls : Array Slot), wp_X5_sumPaidIn_4 j Q k44 n x1 x2 I → PP E s H locs I → lv_has ls 4 [(0, .ref (E.2.1 (8 * j))), (1, .int x1), (2, .int x2)] → W p l e rmX5_sumPaidIn s m args below meth c H locs 0 0 (MQ below (va_Qi Q (BU E) E.2.2.2.1) args s 0 0 E.2.2.2.1) (F0 m 4 ls []) := by
  obtain ⟨⟨hx, hb, hml, hown, hts⟩, hr, hlk, hK, hST, hN⟩ := id X
  intro n
  induction n with
  | zero =>
    intro x1 x2 I H locs ls h hp hl
    exact False.elim h
  | succ n ih =>
    intro x1 x2 I H locs ls h hp hl
    rw [wp_X5_sumPaidIn_4.eq_2] at h
    refine lv_iload_n hx hb dX5_sumPaidIn_4 rfl (lv_at hl 2 rfl) ?_
    refine lv_aload_n hx hb dX5_sumPaidIn_5 rfl (lv_at hl 0 rfl) ?_
    refine f_X5_35 X hp hj dX5_sumPaidIn_6 ?_
    refine lv_icmp_ge (tgt := 44) hx hb dX5_sumPaidIn_9 (by decide) (fun c1 => ?_) (fun c1 => ?_)
    · have h := h.1 c1
      exact K44 _ _ _ _ _ h hp (lv_sub hl [1] rfl)
    · have h := h.2 c1
      refine lv_aload_n hx hb dX5_sumPaidIn_12 rfl (lv_at hl 0 rfl) ?_
      refine lv_iload_n hx hb dX5_sumPaidIn_13 rfl (lv_at hl 2 rfl) ?_
      refine ki (kV (As := [.int x2]) (rest := []) X hp (C_X1_paperAt hj h) tw_ml_X5_108 vf_X1_paperAt ⟨rfl, rfl, Nat.le_of_ble_eq_true rfl, Nat.le_of_ble_eq_true rfl⟩ (pr_rcvb X hp hj) rfl hl.1 rfl (Nat.le_of_ble_eq_true rfl) dX5_sumPaidIn_14) hp (fun r3 I2 H locs h hp => ?_)
      refine lv_istore_n (lv' := [(3, .int r3), (0, .ref (E.2.1 (8 * j))), (1, .int x1), (2, .int x2)]) hx hb dX5_sumPaidIn_17 rfl hl (by decide) rfl (fun ls hl => ?_)
      refine lv_iload_n hx hb dX5_sumPaidIn_18 rfl (lv_at hl 2 rfl) ?_
      refine lv_aload_n hx hb dX5_sumPaidIn_19 rfl (lv_at hl 1 rfl) ?_
      refine lv_iload_n hx hb dX5_sumPaidIn_20 rfl (lv_at hl 0 rfl) ?_
      refine ki (kV (As := [.int r3]) (rest := [.int x1]) X hp (C_X1_isDrawing hj h) tw_ml_X5_111 vf_X1_isDrawing ⟨rfl, rfl, Nat.le_of_ble_eq_true rfl, Nat.le_of_ble_eq_true rfl⟩ (pr_rcvb X hp hj) rfl hl.1 rfl (Nat.le_of_ble_eq_true rfl) dX5_sumPaidIn_21) hp (fun r5 I4 H locs h hp => ?_)
      refine lv_if_eq (tgt := 31) hx hb dX5_sumPaidIn_24 (by decide) (fun c6 => ?_) (fun c6 => ?_)
      · have h := h.1 c6
        refine lv_aload_n hx hb dX5_sumPaidIn_31 rfl (lv_at hl 1 rfl) ?_
        refine lv_iload_n hx hb dX5_sumPaidIn_32 rfl (lv_at hl 0 rfl) ?_
        refine ki (kV (As := [.int r3]) (rest := [.int x1]) X hp (C_X1_sumOf hj h) tw_ml_X5_115 vf_X1_sumOf ⟨rfl, rfl, Nat.le_of_ble_eq_true rfl, Nat.le_of_ble_eq_true rfl⟩ (pr_rcvb X hp hj) rfl hl.1 rfl (Nat.le_of_ble_eq_true rfl) dX5_sumPaidIn_33) hp (fun r8 I7 H locs h hp => ?_)
        exact w_X5_sumPaidIn_36 X hj ih _ _ _ _ _ _ _ h hp (lv_sub hl [1, 3] rfl)
      · have h := h.2 c6
        refine lv_iconst (v := (nI 0)) hx hb dX5_sumPaidIn_27 (by decide) ?_
        refine lv_goto (tgt := 36) hx hb dX5_sumPaidIn_28 (by decide) ?_
        exact w_X5_sumPaidIn_36 X hj ih _ _ _ _ _ _ _ h hp (lv_sub hl [1, 3] rfl)
def wp_X5_sumPaidIn (j : Nat) (I : II) (Q : Int32 → II → Prop) : Prop := (∃ n51, wp_X5_sumPaidIn_4 j Q (fun x1 I => (Q x1 I)) n51 (nI 0) (nI 0) I)
set_option maxHeartbeats 4000000 in
set_option maxRecDepth 100000 in
theorem w_X5_sumPaidIn_0 {E : EE} {p : Program} {l : Launch} {e : Env} {s : State} {m : MethodId} {args : Array Value} {below : List Frame} {meth : Method} {c : Code} {Q : Int32 → II → Prop} (X : CX E p s m args meth c cX5_sumPaidIn 4 (some .int) RX5) {j : Nat} (hj : j < 37) : ∀ (I : II) (H : Heap) (locs : List Loc) (ls : Array Slot), wp_X5_sumPaidIn j I Q → PP E s H locs I → lv_has ls 4 [(0, .ref (E.2.1 (8 * j)))] → W p l e rmX5_sumPaidIn s m args below meth c H locs 0 0 (MQ below (va_Qi Q (BU E) E.2.2.2.1) args s 0 0 E.2.2.2.1) (F0 m 0 ls []) := by
  obtain ⟨⟨hx, hb, hml, hown, hts⟩, hr, hlk, hK, hST, hN⟩ := id X
  intro I H locs ls h hp hl
  unfold wp_X5_sumPaidIn at h
  refine lv_iconst (v := (nI 0)) hx hb dX5_sumPaidIn_0 (by decide) ?_
  refine lv_istore_n (lv' := [(1, .int (nI 0)), (0, .ref (E.2.1 (8 * j)))]) hx hb dX5_sumPaidIn_1 rfl hl (by decide) rfl (fun ls hl => ?_)
  refine lv_iconst (v := (nI 0)) hx hb dX5_sumPaidIn_2 (by decide) ?_
  refine lv_istore_n (lv' := [(2, .int (nI 0)), (1, .int (nI 0)), (0, .ref (E.2.1 (8 * j)))]) hx hb dX5_sumPaidIn_3 rfl hl (by decide) rfl (fun ls hl => ?_)
  obtain ⟨n51, h⟩ := h
  refine w_X5_sumPaidIn_4 X hj ?_ n51 _ _ _ _ _ _ h hp (lv_sub hl [2, 1, 0] rfl)
  · intro x1 I H locs ls h hp hl
    refine lv_iload_n hx hb dX5_sumPaidIn_44 rfl (lv_at hl 0 rfl) ?_
    exact rt_i X hp h dX5_sumPaidIn_45
set_option maxRecDepth 100000 in
theorem C_X5_sumPaidIn {E : EE} {l : Launch} {j : Nat} (hj : j < 37) {I : II} {Q : Int32 → II → Prop} (h : wp_X5_sumPaidIn j I Q) : Met l yX5_sumPaidIn (Cond.code yX5_sumPaidIn cX5_sumPaidIn 4 (some .int) :: lwT) rmX5_sumPaidIn (va_Pc [.ref (E.2.1 (8 * j))] (PU E I)) (va_Qi Q (BU E) E.2.2.2.1) 0 0 E.2.2.2.1 :=
  ofWalk [.ref (E.2.1 (8 * j))] (by decide) tw_c_X5_sumPaidIn (Nat.le_of_ble_eq_true rfl) (fun p e s m below meth c ls X hp hl => w_X5_sumPaidIn_0 X hj _ _ _ _ h hp hl)
def rmdX5_tryShares (d : Nat) : Room := { frames := 4 * d + 6, cells := 0, slots := 0, locals := 160 * d + 200 }
def rmX5_tryShares (d : Nat) : Room := { frames := 4 * d + 10, cells := 0, slots := 0, locals := 160 * d + 360 }
theorem vf_X5_tryShares : VF yX5_tryShares RX5 cX5_tryShares 10 none 2 := ⟨tw_in_X5, tw_im_X5_tryShares, tw_se_X5_tryShares, tw_c_X5_tryShares, by decide, by decide, by decide +kernel⟩
def wp_X5_tryShares_172 (rc : Int32 → Int32 → II → (II → Prop) → Prop) (Q : II → Prop) (k104 : Int32 → Int32 → Nat → Int32 → Int32 → Int32 → Nat → Int32 → II → Prop) (x1 : Int32) (x2 : Int32) (b3 : Nat) (x5 : Int32) (x6 : Int32) (x7 : Int32) (b8 : Nat) (x9 : Int32) (I : II) : Prop := (k104 x1 x2 b3 x5 x6 x7 b8 (x9 + (nI 1)) I)
set_option maxHeartbeats 4000000 in
set_option maxRecDepth 100000 in
theorem w_X5_tryShares_172 {E : EE} {p : Program} {l : Launch} {e : Env} {s : State} {m : MethodId} {args : Array Value} {below : List Frame} {meth : Method} {c : Code} {d : Nat} {rc : Int32 → Int32 → II → (II → Prop) → Prop} {Q : II → Prop} {k104 : Int32 → Int32 → Nat → Int32 → Int32 → Int32 → Nat → Int32 → II → Prop} (X : CX E p s m args meth c cX5_tryShares 10 none RX5) (RC : ∀ (x1 : Int32) (x2 : Int32) (I : II) (Q : II → Prop), rc x1 x2 I Q → Met l yX5_tryShares (Cond.code yX5_tryShares cX5_tryShares 10 none :: lwT) (rmdX5_tryShares d) (va_Pc [.ref (E.2.1 308), .int x1, .int x2] (PU E I)) (va_Qv Q (BU E) E.2.2.2.1) 0 0 E.2.2.2.1) (K104 : ∀ (x1 : Int32) (x2 : Int32) (b3 : Nat) (x5 : Int32) (x6 : Int32) (x7 : Int32) (b8 : Nat) (x9 : Int32) (I : II) (H : Heap) (locs : List Loc) (ls : Array Slot), b3 < 37 → b8 < 37 → k104 x1 x2 b3 x5 x6 x7 b8 x9 I → PP E s H locs I → lv_has ls 10 [(0, .ref (E.2.1 308)), (1, .int x1), (2, .int x2), (3, .ref (E.2.1 (8 * b3))), (5, .int x5), (6, .int x6), (7, .int x7), (8, .ref (E.2.1 (8 * b8))), (9, .int x9)] → W p l e (rmX5_tryShares d) s m args below meth c H locs 0 0 (MQ below (va_Qv Q (BU E) E.2.2.2.1) args s 0 0 E.2.2.2.1) (F0 m 104 ls [])) : ∀ (x1 : Int32) (x2 : Int32) (b3 : Nat) (x5 : Int32) (x6 : Int32) (x7 : Int32) (b8 : Nat) (x9 : Int32) (I : II) (H : Heap) (locs : List Loc) (ls : Array Slot), b3 < 37 → b8 < 37 → wp_X5_tryShares_172 rc Q k104 x1 x2 b3 x5 x6 x7 b8 x9 I → PP E s H locs I → lv_has ls 10 [(0, .ref (E.2.1 308)), (1, .int x1), (2, .int x2), (3, .ref (E.2.1 (8 * b3))), (5, .int x5), (6, .int x6), (7, .int x7), (8, .ref (E.2.1 (8 * b8))), (9, .int x9)] → W p l e (rmX5_tryShares d) s m args below meth c H locs 0 0 (MQ below (va_Qv Q (BU E) E.2.2.2.1) args s 0 0 E.2.2.2.1) (F0 m 172 ls []) := by
  obtain ⟨⟨hx, hb, hml, hown, hts⟩, hr, hlk, hK, hST, hN⟩ := id X
  intro x1 x2 b3 x5 x6 x7 b8 x9 I H locs ls hb3 hb8 h hp hl
  unfold wp_X5_tryShares_172 at h
  refine lv_iinc (v := (x9 + (nI 1))) (lv' := [(9, .int (x9 + (nI 1))), (0, .ref (E.2.1 308)), (1, .int x1), (2, .int x2), (3, .ref (E.2.1 (8 * b3))), (5, .int x5), (6, .int x6), (7, .int x7), (8, .ref (E.2.1 (8 * b8)))]) hx hb dX5_tryShares_172 hl (k := 8) rfl rfl (by decide) rfl (fun ls hl => ?_)
  refine lv_goto (tgt := 104) hx hb dX5_tryShares_175 (by decide) ?_
  exact K104 _ _ _ _ _ _ _ _ _ _ _ _ hb3 hb8 h hp (lv_sub hl [1, 2, 3, 4, 5, 6, 7, 8, 0] rfl)
def wp_X5_tryShares_169 (rc : Int32 → Int32 → II → (II → Prop) → Prop) (Q : II → Prop) (k104 : Int32 → Int32 → Nat → Int32 → Int32 → Int32 → Nat → Int32 → II → Prop) (x1 : Int32) (x2 : Int32) (b3 : Nat) (x5 : Int32) (x6 : Int32) (x7 : Int32) (b8 : Nat) (x9 : Int32) (v0 : Int32) (v1 : Int32) (I : II) : Prop := (rc v1 v0 I (fun I1 => (wp_X5_tryShares_172 rc Q k104 x1 x2 b3 x5 x6 x7 b8 x9 I1)))
set_option maxHeartbeats 4000000 in
set_option maxRecDepth 100000 in
theorem w_X5_tryShares_169 {E : EE} {p : Program} {l : Launch} {e : Env} {s : State} {m : MethodId} {args : Array Value} {below : List Frame} {meth : Method} {c : Code} {d : Nat} {rc : Int32 → Int32 → II → (II → Prop) → Prop} {Q : II → Prop} {k104 : Int32 → Int32 → Nat → Int32 → Int32 → Int32 → Nat → Int32 → II → Prop} (X : CX E p s m args meth c cX5_tryShares 10 none RX5) (RC : ∀ (x1 : Int32) (x2 : Int32) (I : II) (Q : II → Prop), rc x1 x2 I Q → Met l yX5_tryShares (Cond.code yX5_tryShares cX5_tryShares 10 none :: lwT) (rmdX5_tryShares d) (va_Pc [.ref (E.2.1 308), .int x1, .int x2] (PU E I)) (va_Qv Q (BU E) E.2.2.2.1) 0 0 E.2.2.2.1) (K104 : ∀ (x1 : Int32) (x2 : Int32) (b3 : Nat) (x5 : Int32) (x6 : Int32) (x7 : Int32) (b8 : Nat) (x9 : Int32) (I : II) (H : Heap) (locs : List Loc) (ls : Array Slot), b3 < 37 → b8 < 37 → k104 x1 x2 b3 x5 x6 x7 b8 x9 I → PP E s H locs I → lv_has ls 10 [(0, .ref (E.2.1 308)), (1, .int x1), (2, .int x2), (3, .ref (E.2.1 (8 * b3))), (5, .int x5), (6, .int x6), (7, .int x7), (8, .ref (E.2.1 (8 * b8))), (9, .int x9)] → W p l e (rmX5_tryShares d) s m args below meth c H locs 0 0 (MQ below (va_Qv Q (BU E) E.2.2.2.1) args s 0 0 E.2.2.2.1) (F0 m 104 ls [])) : ∀ (x1 : Int32) (x2 : Int32) (b3 : Nat) (x5 : Int32) (x6 : Int32) (x7 : Int32) (b8 : Nat) (x9 : Int32) (v0 : Int32) (v1 : Int32) (I : II) (H : Heap) (locs : List Loc) (ls : Array Slot), b3 < 37 → b8 < 37 → wp_X5_tryShares_169 rc Q k104 x1 x2 b3 x5 x6 x7 b8 x9 v0 v1 I → PP E s H locs I → lv_has ls 10 [(0, .ref (E.2.1 308)), (1, .int x1), (2, .int x2), (3, .ref (E.2.1 (8 * b3))), (5, .int x5), (6, .int x6), (7, .int x7), (8, .ref (E.2.1 (8 * b8))), (9, .int x9)] → W p l e (rmX5_tryShares d) s m args below meth c H locs 0 0 (MQ below (va_Qv Q (BU E) E.2.2.2.1) args s 0 0 E.2.2.2.1) (F0 m 169 ls [.int v0, .int v1, .ref (E.2.1 308)]) := by
  obtain ⟨⟨hx, hb, hml, hown, hts⟩, hr, hlk, hK, hST, hN⟩ := id X
  intro x1 x2 b3 x5 x6 x7 b8 x9 v0 v1 I H locs ls hb3 hb8 h hp hl
  unfold wp_X5_tryShares_169 at h
  refine kv (kV (As := [.int v1, .int v0]) (rest := []) X hp (RC _ _ _ _ h) tw_ml_X5_105 vf_X5_tryShares ⟨rfl, rfl, by simp only [rmX5_tryShares, rmdX5_tryShares]; omega, by simp only [rmX5_tryShares, rmdX5_tryShares]; omega⟩ (pr_rcv X hp (k := 308) (by decide) (ob_308 _) (q := (RX5, TX5, 11)) rfl) rfl hl.1 rfl (Nat.le_of_ble_eq_true rfl) dX5_tryShares_169) hp (fun I1 H locs h hp => ?_)
  exact w_X5_tryShares_172 X RC K104 _ _ _ _ _ _ _ _ _ _ _ _ hb3 hb8 h hp (lv_sub hl [0, 1, 2, 3, 4, 5, 6, 7, 8] rfl)
def wp_X5_tryShares_129 (rc : Int32 → Int32 → II → (II → Prop) → Prop) (Q : II → Prop) (k104 : Int32 → Int32 → Nat → Int32 → Int32 → Int32 → Nat → Int32 → II → Prop) (x1 : Int32) (x2 : Int32) (b3 : Nat) (x5 : Int32) (x6 : Int32) (x7 : Int32) (b8 : Nat) (x9 : Int32) (I : II) : Prop := (wp_X1_takeCourse b8 b3 I (fun I1 => (wp_X1_handOver b8 x9 x5 I1 (fun I3 => (vp_in x1 7 ∧ ∀ I6 : II, I6 = su I3 310 x1.toNatClampNeg x9 → ((x6 = 0 → (wp_X5_tryShares_169 rc Q k104 x1 x2 b3 x5 x6 x7 b8 x9 (x2 - x7) (x1 + (nI 1)) I6)) ∧ (¬ x6 = 0 → (wp_X5_tryShares_169 rc Q k104 x1 x2 b3 x5 x6 x7 b8 x9 x2 (x1 + (nI 1)) I6))))))))
set_option maxHeartbeats 4000000 in
set_option maxRecDepth 100000 in
theorem w_X5_tryShares_129 {E : EE} {p : Program} {l : Launch} {e : Env} {s : State} {m : MethodId} {args : Array Value} {below : List Frame} {meth : Method} {c : Code} {d : Nat} {rc : Int32 → Int32 → II → (II → Prop) → Prop} {Q : II → Prop} {k104 : Int32 → Int32 → Nat → Int32 → Int32 → Int32 → Nat → Int32 → II → Prop} (X : CX E p s m args meth c cX5_tryShares 10 none RX5) (RC : ∀ (x1 : Int32) (x2 : Int32) (I : II) (Q : II → Prop), rc x1 x2 I Q → Met l yX5_tryShares (Cond.code yX5_tryShares cX5_tryShares 10 none :: lwT) (rmdX5_tryShares d) (va_Pc [.ref (E.2.1 308), .int x1, .int x2] (PU E I)) (va_Qv Q (BU E) E.2.2.2.1) 0 0 E.2.2.2.1) (K104 : ∀ (x1 : Int32) (x2 : Int32) (b3 : Nat) (x5 : Int32) (x6 : Int32) (x7 : Int32) (b8 : Nat) (x9 : Int32) (I : II) (H : Heap) (locs : List Loc) (ls : Array Slot), b3 < 37 → b8 < 37 → k104 x1 x2 b3 x5 x6 x7 b8 x9 I → PP E s H locs I → lv_has ls 10 [(0, .ref (E.2.1 308)), (1, .int x1), (2, .int x2), (3, .ref (E.2.1 (8 * b3))), (5, .int x5), (6, .int x6), (7, .int x7), (8, .ref (E.2.1 (8 * b8))), (9, .int x9)] → W p l e (rmX5_tryShares d) s m args below meth c H locs 0 0 (MQ below (va_Qv Q (BU E) E.2.2.2.1) args s 0 0 E.2.2.2.1) (F0 m 104 ls [])) : ∀ (x1 : Int32) (x2 : Int32) (b3 : Nat) (x5 : Int32) (x6 : Int32) (x7 : Int32) (b8 : Nat) (x9 : Int32) (I : II) (H : Heap) (locs : List Loc) (ls : Array Slot), b3 < 37 → b8 < 37 → wp_X5_tryShares_129 rc Q k104 x1 x2 b3 x5 x6 x7 b8 x9 I → PP E s H locs I → lv_has ls 10 [(0, .ref (E.2.1 308)), (1, .int x1), (2, .int x2), (3, .ref (E.2.1 (8 * b3))), (5, .int x5), (6, .int x6), (7, .int x7), (8, .ref (E.2.1 (8 * b8))), (9, .int x9)] → W p l e (rmX5_tryShares d) s m args below meth c H locs 0 0 (MQ below (va_Qv Q (BU E) E.2.2.2.1) args s 0 0 E.2.2.2.1) (F0 m 129 ls []) := by
  obtain ⟨⟨hx, hb, hml, hown, hts⟩, hr, hlk, hK, hST, hN⟩ := id X
  intro x1 x2 b3 x5 x6 x7 b8 x9 I H locs ls hb3 hb8 h hp hl
  unfold wp_X5_tryShares_129 at h
  refine lv_aload hx hb dX5_tryShares_129 (lv_at hl 7 rfl) ?_
  refine lv_aload_n hx hb dX5_tryShares_131 rfl (lv_at hl 3 rfl) ?_
  refine kv (kV (As := [.ref (E.2.1 (8 * b3))]) (rest := []) X hp (C_X1_takeCourse hb8 hb3 h) tw_ml_X5_81 vf_X1_takeCourse ⟨rfl, rfl, by simp only [rmX5_tryShares, rmdX5_tryShares, rmX1_takeCourse]; omega, by simp only [rmX5_tryShares, rmdX5_tryShares, rmX1_takeCourse]; omega⟩ (pr_rcvb X hp hb8) rfl hl.1 rfl (Nat.le_of_ble_eq_true rfl) dX5_tryShares_132) hp (fun I1 H locs h hp => ?_)
  refine lv_aload hx hb dX5_tryShares_135 (lv_at hl 7 rfl) ?_
  refine lv_iload hx hb dX5_tryShares_137 (lv_at hl 8 rfl) ?_
  refine lv_iload hx hb dX5_tryShares_139 (lv_at hl 4 rfl) ?_
  refine kv (kV (As := [.int x9, .int x5]) (rest := []) X hp (C_X1_handOver hb8 h) tw_ml_X5_128 vf_X1_handOver ⟨rfl, rfl, by simp only [rmX5_tryShares, rmdX5_tryShares, rmX1_handOver]; omega, by simp only [rmX5_tryShares, rmdX5_tryShares, rmX1_handOver]; omega⟩ (pr_rcvb X hp hb8) rfl hl.1 rfl (Nat.le_of_ble_eq_true rfl) dX5_tryShares_141) hp (fun I3 H locs h hp => ?_)
  refine lv_aload_n hx hb dX5_tryShares_144 rfl (lv_at hl 0 rfl) ?_
  refine f_X5_17 X hp dX5_tryShares_145 ?_
  refine lv_iload_n hx hb dX5_tryShares_148 rfl (lv_at hl 1 rfl) ?_
  refine lv_iload hx hb dX5_tryShares_149 (lv_at hl 8 rfl) ?_
  have hv5 := h.1
  have h := h.2
  refine as_i X hp ar_s310 hv5 dX5_tryShares_151 (fun H locs hp => ?_)
  obtain ⟨I6, e7⟩ : ∃ y, y = su I3 310 x1.toNatClampNeg x9 := ⟨_, rfl⟩
  have hp : PP E s H locs I6 := by rw [e7]; exact hp
  have h := h I6 e7
  refine lv_aload_n hx hb dX5_tryShares_152 rfl (lv_at hl 0 rfl) ?_
  refine lv_iload_n hx hb dX5_tryShares_153 rfl (lv_at hl 1 rfl) ?_
  refine lv_iconst (v := (nI 1)) hx hb dX5_tryShares_154 (by decide) ?_
  refine lv_iadd hx hb dX5_tryShares_155 ?_
  refine lv_iload hx hb dX5_tryShares_156 (lv_at hl 5 rfl) ?_
  refine lv_if_eq (tgt := 165) hx hb dX5_tryShares_158 (by decide) (fun c8 => ?_) (fun c8 => ?_)
  · have h := h.1 c8
    refine lv_iload_n hx hb dX5_tryShares_165 rfl (lv_at hl 2 rfl) ?_
    refine lv_iload hx hb dX5_tryShares_166 (lv_at hl 6 rfl) ?_
    refine lv_isub hx hb dX5_tryShares_168 ?_
    exact w_X5_tryShares_169 X RC K104 _ _ _ _ _ _ _ _ _ _ _ _ _ _ hb3 hb8 h hp (lv_sub hl [0, 1, 2, 3, 4, 5, 6, 7, 8] rfl)
  · have h := h.2 c8
    refine lv_iload_n hx hb dX5_tryShares_161 rfl (lv_at hl 2 rfl) ?_
    refine lv_goto (tgt := 169) hx hb dX5_tryShares_162 (by decide) ?_
    exact w_X5_tryShares_169 X RC K104 _ _ _ _ _ _ _ _ _ _ _ _ _ _ hb3 hb8 h hp (lv_sub hl [0, 1, 2, 3, 4, 5, 6, 7, 8] rfl)
def wp_X5_tryShares_104 (rc : Int32 → Int32 → II → (II → Prop) → Prop) (Q : II → Prop) (k178 : II → Prop) : Nat → Int32 → Int32 → Nat → Int32 → Int32 → Int32 → Nat → Int32 → II → Prop
  | 0, _, _, _, _, _, _, _, _, _ => False
  | n + 1, x1, x2, b3, x5, x6, x7, b8, x9, I => (((I (8 * b3) 2) ≤ x9 → (k178 I)) ∧ (¬ (I (8 * b3) 2) ≤ x9 → ((x6 = 0 → (wp_X5_tryShares_129 rc Q (fun x1 x2 b3 x5 x6 x7 b8 x9 I => wp_X5_tryShares_104 rc Q k178 n x1 x2 b3 x5 x6 x7 b8 x9 I) x1 x2 b3 x5 x6 x7 b8 x9 I)) ∧ (¬ x6 = 0 → (wp_X1_canPay b3 x9 x7 I (fun r4 I3 => ((r4 = 0 → (wp_X5_tryShares_172 rc Q (fun x1 x2 b3 x5 x6 x7 b8 x9 I => wp_X5_tryShares_104 rc Q k178 n x1 x2 b3 x5 x6 x7 b8 x9 I) x1 x2 b3 x5 x6 x7 b8 x9 I3)) ∧ (¬ r4 = 0 → (wp_X5_tryShares_129 rc Q (fun x1 x2 b3 x5 x6 x7 b8 x9 I => wp_X5_tryShares_104 rc Q k178 n x1 x2 b3 x5 x6 x7 b8 x9 I) x1 x2 b3 x5 x6 x7 b8 x9 I3)))))))))
set_option maxHeartbeats 4000000 in
set_option maxRecDepth 100000 in
theorem w_X5_tryShares_104 {E : EE} {p : Program} {l : Launch} {e : Env} {s : State} {m : MethodId} {args : Array Value} {below : List Frame} {meth : Method} {c : Code} {d : Nat} {rc : Int32 → Int32 → II → (II → Prop) → Prop} {Q : II → Prop} {k178 : II → Prop} (X : CX E p s m args meth c cX5_tryShares 10 none RX5) (RC : ∀ (x1 : Int32) (x2 : Int32) (I : II) (Q : II → Prop), rc x1 x2 I Q → Met l yX5_tryShares (Cond.code yX5_tryShares cX5_tryShares 10 none :: lwT) (rmdX5_tryShares d) (va_Pc [.ref (E.2.1 308), .int x1, .int x2] (PU E I)) (va_Qv Q (BU E) E.2.2.2.1) 0 0 E.2.2.2.1) (K178 : ∀ (I : II) (H : Heap) (locs : List Loc) (ls : Array Slot), k178 I → PP E s H locs I → lv_has ls 10 [] → W p l e (rmX5_tryShares d) s m args below meth c H locs 0 0 (MQ below (va_Qv Q (BU E) E.2.2.2.1) args s 0 0 E.2.2.2.1) (F0 m 178 ls [])) : ∀ (n : Nat) (x1 : Int32) (x2 : Int32) (b3 : Nat) (x5 : Int32) (x6 : Int32) (x7 : Int32) (b8 : Nat) (x9 : Int32) (I : II) (H : Heap) (locs : List Loc) (ls : Array Slot), b3 < 37 → b8 < 37 → wp_X5_tryShares_104 rc Q k178 n x1 x2 b3 x5 x6 x7 b8 x9 I → PP E s H locs I → lv_has ls 10 [(0, .ref (E.2.1 308)), (1, .int x1), (2, .int x2), (3, .ref (E.2.1 (8 * b3))), (5, .int x5), (6, .int x6), (7, .int x7), (8, .ref (E.2.1 (8 * b8))), (9, .int x9)] → W p l e (rmX5_tryShares d) s m args below meth c H locs 0 0 (MQ below (va_Qv Q (BU E) E.2.2.2.1) args s 0 0 E.2.2.2.1) (F0 m 104 ls []) := by
  obtain ⟨⟨hx, hb, hml, hown, hts⟩, hr, hlk, hK, hST, hN⟩ := id X
  intro n
  induction n with
  | zero =>
    intro x1 x2 b3 x5 x6 x7 b8 x9 I H locs ls hb3 hb8 h hp hl
    exact False.elim h
  | succ n ih =>
    intro x1 x2 b3 x5 x6 x7 b8 x9 I H locs ls hb3 hb8 h hp hl
    rw [wp_X5_tryShares_104.eq_2] at h
    refine lv_iload hx hb dX5_tryShares_104 (lv_at hl 8 rfl) ?_
    refine lv_aload_n hx hb dX5_tryShares_106 rfl (lv_at hl 3 rfl) ?_
    refine f_X5_121 X hp hb3 dX5_tryShares_107 ?_
    refine lv_icmp_ge (tgt := 178) hx hb dX5_tryShares_110 (by decide) (fun c1 => ?_) (fun c1 => ?_)
    · have h := h.1 c1
      exact K178 _ _ _ _ h hp (lv_sub hl [] rfl)
    · have h := h.2 c1
      refine lv_iload hx hb dX5_tryShares_113 (lv_at hl 5 rfl) ?_
      refine lv_if_eq (tgt := 129) hx hb dX5_tryShares_115 (by decide) (fun c2 => ?_) (fun c2 => ?_)
      · have h := h.1 c2
        exact w_X5_tryShares_129 X RC ih _ _ _ _ _ _ _ _ _ _ _ _ hb3 hb8 h hp (lv_sub hl [0, 1, 2, 3, 4, 5, 6, 7, 8] rfl)
      · have h := h.2 c2
        refine lv_aload_n hx hb dX5_tryShares_118 rfl (lv_at hl 3 rfl) ?_
        refine lv_iload hx hb dX5_tryShares_119 (lv_at hl 8 rfl) ?_
        refine lv_iload hx hb dX5_tryShares_121 (lv_at hl 6 rfl) ?_
        refine ki (kV (As := [.int x9, .int x7]) (rest := []) X hp (C_X1_canPay hb3 h) tw_ml_X5_124 vf_X1_canPay ⟨rfl, rfl, by simp only [rmX5_tryShares, rmdX5_tryShares, rmX1_canPay]; omega, by simp only [rmX5_tryShares, rmdX5_tryShares, rmX1_canPay]; omega⟩ (pr_rcvb X hp hb3) rfl hl.1 rfl (Nat.le_of_ble_eq_true rfl) dX5_tryShares_123) hp (fun r4 I3 H locs h hp => ?_)
        refine lv_if_eq (tgt := 172) hx hb dX5_tryShares_126 (by decide) (fun c5 => ?_) (fun c5 => ?_)
        · have h := h.1 c5
          exact w_X5_tryShares_172 X RC ih _ _ _ _ _ _ _ _ _ _ _ _ hb3 hb8 h hp (lv_sub hl [0, 1, 2, 3, 4, 5, 6, 7, 8] rfl)
        · have h := h.2 c5
          exact w_X5_tryShares_129 X RC ih _ _ _ _ _ _ _ _ _ _ _ _ hb3 hb8 h hp (lv_sub hl [0, 1, 2, 3, 4, 5, 6, 7, 8] rfl)
def wp_X5_tryShares (rc : Int32 → Int32 → II → (II → Prop) → Prop) (x1 : Int32) (x2 : Int32) (I : II) (Q : II → Prop) : Prop := ((x1 < 0 → (Q I)) ∧ (¬ x1 < 0 → ((x1 ≤ (I 308 4) → (vp_in x1 8 ∧ (wp_X1_leastLeft (29 + x1.toNatClampNeg) I (fun r5 I4 => (((I4 308 8) < (r5 + x2) → ((¬ x1 = (I4 308 4) → (wp_X1_paperAt (29 + x1.toNatClampNeg) x1 I4 (fun r9 I8 => (wp_X1_isDrawing (29 + x1.toNatClampNeg) r9 I8 (fun r11 I10 => (wp_X1_sumOf (29 + x1.toNatClampNeg) r9 I10 (fun r13 I12 => (vp_in (x1 + (nI 1)) 8 ∧ (∃ n65, wp_X5_tryShares_104 rc Q (fun I => (Q I)) n65 x1 x2 (29 + x1.toNatClampNeg) r9 r11 r13 (29 + (x1 + (nI 1)).toNatClampNeg) (nI 0) I12))))))))) ∧ (x1 = (I4 308 4) → (∀ I66 : II, I66 = su I4 308 8 r5 → (¬ (nI 0) < 0 ∧ ¬ (nI 0) < 0 ∧ ¬ (nI 7) < 0 ∧ (nI 0).toNatClampNeg + (nI 7).toNatClampNeg ≤ 7 ∧ (nI 0).toNatClampNeg + (nI 7).toNatClampNeg ≤ 7 ∧ ∀ I73 : II, I73 = va_up I66 312 (va_cpy (I66 310) (I66 312) (nI 0).toNatClampNeg (nI 0).toNatClampNeg (nI 7).toNatClampNeg) → (Q I73)))))) ∧ (¬ (I4 308 8) < (r5 + x2) → (Q I4))))))) ∧ (¬ x1 ≤ (I 308 4) → (Q I)))))
set_option maxHeartbeats 4000000 in
set_option maxRecDepth 100000 in
theorem w_X5_tryShares_0 {E : EE} {p : Program} {l : Launch} {e : Env} {s : State} {m : MethodId} {args : Array Value} {below : List Frame} {meth : Method} {c : Code} {d : Nat} {rc : Int32 → Int32 → II → (II → Prop) → Prop} {Q : II → Prop} (X : CX E p s m args meth c cX5_tryShares 10 none RX5) (RC : ∀ (x1 : Int32) (x2 : Int32) (I : II) (Q : II → Prop), rc x1 x2 I Q → Met l yX5_tryShares (Cond.code yX5_tryShares cX5_tryShares 10 none :: lwT) (rmdX5_tryShares d) (va_Pc [.ref (E.2.1 308), .int x1, .int x2] (PU E I)) (va_Qv Q (BU E) E.2.2.2.1) 0 0 E.2.2.2.1) : ∀ (x1 : Int32) (x2 : Int32) (I : II) (H : Heap) (locs : List Loc) (ls : Array Slot), wp_X5_tryShares rc x1 x2 I Q → PP E s H locs I → lv_has ls 10 [(0, .ref (E.2.1 308)), (1, .int x1), (2, .int x2)] → W p l e (rmX5_tryShares d) s m args below meth c H locs 0 0 (MQ below (va_Qv Q (BU E) E.2.2.2.1) args s 0 0 E.2.2.2.1) (F0 m 0 ls []) := by
  obtain ⟨⟨hx, hb, hml, hown, hts⟩, hr, hlk, hK, hST, hN⟩ := id X
  intro x1 x2 I H locs ls h hp hl
  unfold wp_X5_tryShares at h
  refine lv_iload_n hx hb dX5_tryShares_0 rfl (lv_at hl 1 rfl) ?_
  refine lv_if_lt (tgt := 12) hx hb dX5_tryShares_1 (by decide) (fun c1 => ?_) (fun c1 => ?_)
  · have h := h.1 c1
    exact rt_v X hp h dX5_tryShares_12
  · have h := h.2 c1
    refine lv_iload_n hx hb dX5_tryShares_4 rfl (lv_at hl 1 rfl) ?_
    refine lv_aload_n hx hb dX5_tryShares_5 rfl (lv_at hl 0 rfl) ?_
    refine f_X5_45 X hp dX5_tryShares_6 ?_
    refine lv_icmp_le (tgt := 13) hx hb dX5_tryShares_9 (by decide) (fun c2 => ?_) (fun c2 => ?_)
    · have h := h.1 c2
      refine lv_aload_n hx hb dX5_tryShares_13 rfl (lv_at hl 0 rfl) ?_
      refine f_X5_11 X hp dX5_tryShares_14 ?_
      refine lv_iload_n hx hb dX5_tryShares_17 rfl (lv_at hl 1 rfl) ?_
      have hv3 := h.1
      have h := h.2
      refine al_a X hp ba_309 hv3 dX5_tryShares_18 ?_
      refine lv_astore_n (lv' := [(3, .ref (E.2.1 (8 * (29 + x1.toNatClampNeg)))), (0, .ref (E.2.1 308)), (1, .int x1), (2, .int x2)]) hx hb dX5_tryShares_19 rfl hl (by decide) rfl (fun ls hl => ?_)
      refine lv_aload_n hx hb dX5_tryShares_20 rfl (lv_at hl 0 rfl) ?_
      refine ki (kV (As := []) (rest := []) X hp (C_X1_leastLeft (bk_29 hv3) h) tw_ml_X5_118 vf_X1_leastLeft ⟨rfl, rfl, by simp only [rmX5_tryShares, rmdX5_tryShares, rmX1_leastLeft]; omega, by simp only [rmX5_tryShares, rmdX5_tryShares, rmX1_leastLeft]; omega⟩ (pr_rcvb X hp (bk_29 hv3)) rfl hl.1 rfl (Nat.le_of_ble_eq_true rfl) dX5_tryShares_21) hp (fun r5 I4 H locs h hp => ?_)
      refine lv_istore (lv' := [(4, .int r5), (3, .ref (E.2.1 (8 * (29 + x1.toNatClampNeg)))), (0, .ref (E.2.1 308)), (1, .int x1), (2, .int x2)]) hx hb dX5_tryShares_24 hl (by decide) rfl (fun ls hl => ?_)
      refine lv_iload hx hb dX5_tryShares_26 (lv_at hl 0 rfl) ?_
      refine lv_iload_n hx hb dX5_tryShares_28 rfl (lv_at hl 4 rfl) ?_
      refine lv_iadd hx hb dX5_tryShares_29 ?_
      refine lv_aload_n hx hb dX5_tryShares_30 rfl (lv_at hl 2 rfl) ?_
      refine f_X5_98 X hp dX5_tryShares_31 ?_
      refine lv_icmp_gt (tgt := 38) hx hb dX5_tryShares_34 (by decide) (fun c6 => ?_) (fun c6 => ?_)
      · have h := h.1 c6
        refine lv_iload_n hx hb dX5_tryShares_38 rfl (lv_at hl 3 rfl) ?_
        refine lv_aload_n hx hb dX5_tryShares_39 rfl (lv_at hl 2 rfl) ?_
        refine f_X5_45 X hp dX5_tryShares_40 ?_
        refine lv_icmp_ne (tgt := 68) hx hb dX5_tryShares_43 (by decide) (fun c7 => ?_) (fun c7 => ?_)
        · have h := h.1 c7
          refine lv_aload_n hx hb dX5_tryShares_68 rfl (lv_at hl 1 rfl) ?_
          refine lv_iload_n hx hb dX5_tryShares_69 rfl (lv_at hl 3 rfl) ?_
          refine ki (kV (As := [.int x1]) (rest := []) X hp (C_X1_paperAt (bk_29 hv3) h) tw_ml_X5_108 vf_X1_paperAt ⟨rfl, rfl, by simp only [rmX5_tryShares, rmdX5_tryShares, rmX1_paperAt]; omega, by simp only [rmX5_tryShares, rmdX5_tryShares, rmX1_paperAt]; omega⟩ (pr_rcvb X hp (bk_29 hv3)) rfl hl.1 rfl (Nat.le_of_ble_eq_true rfl) dX5_tryShares_70) hp (fun r9 I8 H locs h hp => ?_)
          refine lv_istore (lv' := [(5, .int r9), (4, .int r5), (3, .ref (E.2.1 (8 * (29 + x1.toNatClampNeg)))), (0, .ref (E.2.1 308)), (1, .int x1), (2, .int x2)]) hx hb dX5_tryShares_73 hl (by decide) rfl (fun ls hl => ?_)
          refine lv_aload_n hx hb dX5_tryShares_75 rfl (lv_at hl 2 rfl) ?_
          refine lv_iload hx hb dX5_tryShares_76 (lv_at hl 0 rfl) ?_
          refine ki (kV (As := [.int r9]) (rest := []) X hp (C_X1_isDrawing (bk_29 hv3) h) tw_ml_X5_111 vf_X1_isDrawing ⟨rfl, rfl, by simp only [rmX5_tryShares, rmdX5_tryShares, rmX1_isDrawing]; omega, by simp only [rmX5_tryShares, rmdX5_tryShares, rmX1_isDrawing]; omega⟩ (pr_rcvb X hp (bk_29 hv3)) rfl hl.1 rfl (Nat.le_of_ble_eq_true rfl) dX5_tryShares_78) hp (fun r11 I10 H locs h hp => ?_)
          refine lv_istore (lv' := [(6, .int r11), (5, .int r9), (4, .int r5), (3, .ref (E.2.1 (8 * (29 + x1.toNatClampNeg)))), (0, .ref (E.2.1 308)), (1, .int x1), (2, .int x2)]) hx hb dX5_tryShares_81 hl (by decide) rfl (fun ls hl => ?_)
          refine lv_aload_n hx hb dX5_tryShares_83 rfl (lv_at hl 3 rfl) ?_
          refine lv_iload hx hb dX5_tryShares_84 (lv_at hl 1 rfl) ?_
          refine ki (kV (As := [.int r9]) (rest := []) X hp (C_X1_sumOf (bk_29 hv3) h) tw_ml_X5_115 vf_X1_sumOf ⟨rfl, rfl, by simp only [rmX5_tryShares, rmdX5_tryShares, rmX1_sumOf]; omega, by simp only [rmX5_tryShares, rmdX5_tryShares, rmX1_sumOf]; omega⟩ (pr_rcvb X hp (bk_29 hv3)) rfl hl.1 rfl (Nat.le_of_ble_eq_true rfl) dX5_tryShares_86) hp (fun r13 I12 H locs h hp => ?_)
          refine lv_istore (lv' := [(7, .int r13), (6, .int r11), (5, .int r9), (4, .int r5), (3, .ref (E.2.1 (8 * (29 + x1.toNatClampNeg)))), (0, .ref (E.2.1 308)), (1, .int x1), (2, .int x2)]) hx hb dX5_tryShares_89 hl (by decide) rfl (fun ls hl => ?_)
          refine lv_aload_n hx hb dX5_tryShares_91 rfl (lv_at hl 5 rfl) ?_
          refine f_X5_11 X hp dX5_tryShares_92 ?_
          refine lv_iload_n hx hb dX5_tryShares_95 rfl (lv_at hl 6 rfl) ?_
          refine lv_iconst (v := (nI 1)) hx hb dX5_tryShares_96 (by decide) ?_
          refine lv_iadd hx hb dX5_tryShares_97 ?_
          have hv14 := h.1
          have h := h.2
          refine al_a X hp ba_309 hv14 dX5_tryShares_98 ?_
          refine lv_astore (lv' := [(8, .ref (E.2.1 (8 * (29 + (x1 + (nI 1)).toNatClampNeg)))), (7, .int r13), (6, .int r11), (5, .int r9), (4, .int r5), (3, .ref (E.2.1 (8 * (29 + x1.toNatClampNeg)))), (0, .ref (E.2.1 308)), (1, .int x1), (2, .int x2)]) hx hb dX5_tryShares_99 hl (by decide) rfl (fun ls hl => ?_)
          refine lv_iconst (v := (nI 0)) hx hb dX5_tryShares_101 (by decide) ?_
          refine lv_istore (lv' := [(9, .int (nI 0)), (8, .ref (E.2.1 (8 * (29 + (x1 + (nI 1)).toNatClampNeg)))), (7, .int r13), (6, .int r11), (5, .int r9), (4, .int r5), (3, .ref (E.2.1 (8 * (29 + x1.toNatClampNeg)))), (0, .ref (E.2.1 308)), (1, .int x1), (2, .int x2)]) hx hb dX5_tryShares_102 hl (by decide) rfl (fun ls hl => ?_)
          obtain ⟨n65, h⟩ := h
          refine w_X5_tryShares_104 X RC ?_ n65 _ _ _ _ _ _ _ _ _ _ _ _ (bk_29 hv3) (bk_29 hv14) h hp (lv_sub hl [7, 8, 9, 6, 4, 3, 2, 1, 0] rfl)
          · intro I H locs ls h hp hl
            exact rt_v X hp h dX5_tryShares_178
        · have h := h.2 c7
          refine lv_aload_n hx hb dX5_tryShares_46 rfl (lv_at hl 2 rfl) ?_
          refine lv_iload hx hb dX5_tryShares_47 (lv_at hl 0 rfl) ?_
          refine g_X5_98 X hp dX5_tryShares_49 (fun H locs hp => ?_)
          obtain ⟨I66, e67⟩ : ∃ y, y = su I4 308 8 r5 := ⟨_, rfl⟩
          have hp : PP E s H locs I66 := by rw [e67]; exact hp
          have h := h I66 e67
          refine lv_aload_n hx hb dX5_tryShares_52 rfl (lv_at hl 2 rfl) ?_
          refine f_X5_17 X hp dX5_tryShares_53 ?_
          refine lv_iconst (v := (nI 0)) hx hb dX5_tryShares_56 (by decide) ?_
          refine lv_aload_n hx hb dX5_tryShares_57 rfl (lv_at hl 2 rfl) ?_
          refine f_X5_24 X hp dX5_tryShares_58 ?_
          refine lv_iconst (v := (nI 0)) hx hb dX5_tryShares_61 (by decide) ?_
          refine lv_bipush (v := (nI 7)) hx hb dX5_tryShares_62 (by decide) ?_
          obtain ⟨hy68, hy69, hy70, hy71, hy72, h⟩ := h
          refine cp_i X hp ar_s310 ar_s312 tw_ml_X5_91 hl.1 hy68 hy69 hy70 hy71 hy72 ⟨Nat.le_of_ble_eq_true rfl, Nat.le_of_ble_eq_true rfl⟩ dX5_tryShares_64 (fun H locs hp => ?_)
          obtain ⟨I73, e74⟩ : ∃ y, y = va_up I66 312 (va_cpy (I66 310) (I66 312) (nI 0).toNatClampNeg (nI 0).toNatClampNeg (nI 7).toNatClampNeg) := ⟨_, rfl⟩
          have hp : PP E s H locs I73 := by rw [e74]; exact hp
          have h := h I73 e74
          exact rt_v X hp h dX5_tryShares_67
      · have h := h.2 c6
        exact rt_v X hp h dX5_tryShares_37
    · have h := h.2 c2
      exact rt_v X hp h dX5_tryShares_12
set_option maxRecDepth 100000 in
theorem C_X5_tryShares {E : EE} {l : Launch} {d : Nat} {rc : Int32 → Int32 → II → (II → Prop) → Prop} (RC : ∀ (x1 : Int32) (x2 : Int32) (I : II) (Q : II → Prop), rc x1 x2 I Q → Met l yX5_tryShares (Cond.code yX5_tryShares cX5_tryShares 10 none :: lwT) (rmdX5_tryShares d) (va_Pc [.ref (E.2.1 308), .int x1, .int x2] (PU E I)) (va_Qv Q (BU E) E.2.2.2.1) 0 0 E.2.2.2.1) {x1 : Int32} {x2 : Int32} {I : II} {Q : II → Prop} (h : wp_X5_tryShares rc x1 x2 I Q) : Met l yX5_tryShares (Cond.code yX5_tryShares cX5_tryShares 10 none :: lwT) (rmX5_tryShares d) (va_Pc [.ref (E.2.1 308), .int x1, .int x2] (PU E I)) (va_Qv Q (BU E) E.2.2.2.1) 0 0 E.2.2.2.1 :=
  ofWalk [.ref (E.2.1 308), .int x1, .int x2] (by decide) tw_c_X5_tryShares (Nat.le_of_ble_eq_true rfl) (fun p e s m below meth c ls X hp hl => w_X5_tryShares_0 X RC _ _ _ _ _ _ h hp hl)
def wpd_X5_tryShares : Nat → Int32 → Int32 → II → (II → Prop) → Prop
  | 0, _, _, _, _ => False
  | d + 1, x1, x2, I, Q => wp_X5_tryShares (wpd_X5_tryShares d) x1 x2 I Q
theorem CR_X5_tryShares {E : EE} {l : Launch} : ∀ (d : Nat), ∀ (x1 : Int32) (x2 : Int32) (I : II) (Q : II → Prop), wpd_X5_tryShares d x1 x2 I Q → Met l yX5_tryShares (Cond.code yX5_tryShares cX5_tryShares 10 none :: lwT) (rmdX5_tryShares d) (va_Pc [.ref (E.2.1 308), .int x1, .int x2] (PU E I)) (va_Qv Q (BU E) E.2.2.2.1) 0 0 E.2.2.2.1 := by
  intro d
  induction d with
  | zero => intro x1 x2 I Q h; exact False.elim h
  | succ d ih => intro x1 x2 I Q h; exact C_X5_tryShares ih  h
abbrev rmX5_findShare : Room := { frames := 49, cells := 0, slots := 0, locals := 1909 }
theorem vf_X5_findShare : VF yX5_findShare RX5 cX5_findShare 2 none 1 := ⟨tw_in_X5, tw_im_X5_findShare, tw_se_X5_findShare, tw_c_X5_findShare, by decide, by decide, by decide +kernel⟩
def wp_X5_findShare (j : Nat) (I : II) (Q : II → Prop) : Prop := (((I 308 10) = 0 → (wp_X5_makeReady j I (fun I2 => (∀ I4 : II, I4 = su I2 308 8 (-nI 1000000) → (wp_X5_sumPaidIn j I4 (fun r7 I6 => (wpd_X5_tryShares 10 (nI 0) r7 I6 (fun I8 => (∀ I10 : II, I10 = su I8 308 10 (nI 1) → (Q I10)))))))))) ∧ (¬ (I 308 10) = 0 → (Q I)))
set_option maxHeartbeats 4000000 in
set_option maxRecDepth 100000 in
theorem w_X5_findShare_0 {E : EE} {p : Program} {l : Launch} {e : Env} {s : State} {m : MethodId} {args : Array Value} {below : List Frame} {meth : Method} {c : Code} {Q : II → Prop} (X : CX E p s m args meth c cX5_findShare 2 none RX5) {j : Nat} (hj : j < 37) : ∀ (I : II) (H : Heap) (locs : List Loc) (ls : Array Slot), wp_X5_findShare j I Q → PP E s H locs I → lv_has ls 2 [(0, .ref (E.2.1 308)), (1, .ref (E.2.1 (8 * j)))] → W p l e rmX5_findShare s m args below meth c H locs 0 0 (MQ below (va_Qv Q (BU E) E.2.2.2.1) args s 0 0 E.2.2.2.1) (F0 m 0 ls []) := by
  obtain ⟨⟨hx, hb, hml, hown, hts⟩, hr, hlk, hK, hST, hN⟩ := id X
  intro I H locs ls h hp hl
  unfold wp_X5_findShare at h
  refine lv_aload_n hx hb dX5_findShare_0 rfl (lv_at hl 0 rfl) ?_
  refine f_X5_32 X hp dX5_findShare_1 ?_
  refine lv_if_eq (tgt := 8) hx hb dX5_findShare_4 (by decide) (fun c1 => ?_) (fun c1 => ?_)
  · have h := h.1 c1
    refine lv_aload_n hx hb dX5_findShare_8 rfl (lv_at hl 0 rfl) ?_
    refine lv_aload_n hx hb dX5_findShare_9 rfl (lv_at hl 1 rfl) ?_
    refine kv (kV (As := [.ref (E.2.1 (8 * j))]) (rest := []) X hp (C_X5_makeReady hj h) tw_ml_X5_58 vf_X5_makeReady ⟨rfl, rfl, Nat.le_of_ble_eq_true rfl, Nat.le_of_ble_eq_true rfl⟩ (pr_rcv X hp (k := 308) (by decide) (ob_308 _) (q := (RX5, TX5, 11)) rfl) rfl hl.1 rfl (Nat.le_of_ble_eq_true rfl) dX5_findShare_10) hp (fun I2 H locs h hp => ?_)
    refine lv_aload_n hx hb dX5_findShare_13 rfl (lv_at hl 0 rfl) ?_
    refine lv_ldc (v := (-nI 1000000)) hx hb hown (hts _ tw_k_X5_97) dX5_findShare_14 ?_
    refine g_X5_98 X hp dX5_findShare_16 (fun H locs hp => ?_)
    obtain ⟨I4, e5⟩ : ∃ y, y = su I2 308 8 (-nI 1000000) := ⟨_, rfl⟩
    have hp : PP E s H locs I4 := by rw [e5]; exact hp
    have h := h I4 e5
    refine lv_aload_n hx hb dX5_findShare_19 rfl (lv_at hl 0 rfl) ?_
    refine lv_iconst (v := (nI 0)) hx hb dX5_findShare_20 (by decide) ?_
    refine lv_aload_n hx hb dX5_findShare_21 rfl (lv_at hl 1 rfl) ?_
    refine ki (kS (As := [.ref (E.2.1 (8 * j))]) (rest := [.int (nI 0), .ref (E.2.1 308)]) X hp (C_X5_sumPaidIn hj h) tw_ml_X5_101 sf_X5_sumPaidIn ⟨rfl, rfl, Nat.le_of_ble_eq_true rfl, Nat.le_of_ble_eq_true rfl⟩ rfl hl.1 rfl (Nat.le_of_ble_eq_true rfl) dX5_findShare_22) hp (fun r7 I6 H locs h hp => ?_)
    refine kv (kV (As := [.int (nI 0), .int r7]) (rest := []) X hp (CR_X5_tryShares 10 _ _ _ _ h) tw_ml_X5_105 vf_X5_tryShares ⟨rfl, rfl, Nat.le_of_ble_eq_true rfl, Nat.le_of_ble_eq_true rfl⟩ (pr_rcv X hp (k := 308) (by decide) (ob_308 _) (q := (RX5, TX5, 11)) rfl) rfl hl.1 rfl (Nat.le_of_ble_eq_true rfl) dX5_findShare_25) hp (fun I8 H locs h hp => ?_)
    refine lv_aload_n hx hb dX5_findShare_28 rfl (lv_at hl 0 rfl) ?_
    refine lv_iconst (v := (nI 1)) hx hb dX5_findShare_29 (by decide) ?_
    refine g_X5_32 X hp (Or.inr rfl) dX5_findShare_30 (fun H locs hp => ?_)
    obtain ⟨I10, e11⟩ : ∃ y, y = su I8 308 10 (nI 1) := ⟨_, rfl⟩
    have hp : PP E s H locs I10 := by rw [e11]; exact hp
    have h := h I10 e11
    exact rt_v X hp h dX5_findShare_33
  · have h := h.2 c1
    exact rt_v X hp h dX5_findShare_7
set_option maxRecDepth 100000 in
theorem C_X5_findShare {E : EE} {l : Launch} {j : Nat} (hj : j < 37) {I : II} {Q : II → Prop} (h : wp_X5_findShare j I Q) : Met l yX5_findShare (Cond.code yX5_findShare cX5_findShare 2 none :: lwT) rmX5_findShare (va_Pc [.ref (E.2.1 308), .ref (E.2.1 (8 * j))] (PU E I)) (va_Qv Q (BU E) E.2.2.2.1) 0 0 E.2.2.2.1 :=
  ofWalk [.ref (E.2.1 308), .ref (E.2.1 (8 * j))] (by decide) tw_c_X5_findShare (Nat.le_of_ble_eq_true rfl) (fun p e s m below meth c ls X hp hl => w_X5_findShare_0 X hj _ _ _ _ h hp hl)
abbrev rmX5_shareAt : Room := { frames := 0, cells := 0, slots := 0, locals := 0 }
theorem vf_X5_shareAt : VF yX5_shareAt RX5 cX5_shareAt 2 (some .int) 1 := ⟨tw_in_X5, tw_im_X5_shareAt, tw_se_X5_shareAt, tw_c_X5_shareAt, by decide, by decide, by decide +kernel⟩
def wp_X5_shareAt (x1 : Int32) (I : II) (Q : Int32 → II → Prop) : Prop := (((I 308 8) = (-nI 1000000) → (Q (-nI 1000000) I)) ∧ (¬ (I 308 8) = (-nI 1000000) → ((x1 < 0 → (Q (-nI 1000000) I)) ∧ (¬ x1 < 0 → (((I 308 4) ≤ x1 → (Q (-nI 1000000) I)) ∧ (¬ (I 308 4) ≤ x1 → (((nI 7) ≤ x1 → (Q (-nI 1000000) I)) ∧ (¬ (nI 7) ≤ x1 → (vp_in x1 7 ∧ (Q (I 312 x1.toNatClampNeg) I))))))))))
set_option maxHeartbeats 4000000 in
set_option maxRecDepth 100000 in
theorem w_X5_shareAt_0 {E : EE} {p : Program} {l : Launch} {e : Env} {s : State} {m : MethodId} {args : Array Value} {below : List Frame} {meth : Method} {c : Code} {Q : Int32 → II → Prop} (X : CX E p s m args meth c cX5_shareAt 2 (some .int) RX5) : ∀ (x1 : Int32) (I : II) (H : Heap) (locs : List Loc) (ls : Array Slot), wp_X5_shareAt x1 I Q → PP E s H locs I → lv_has ls 2 [(0, .ref (E.2.1 308)), (1, .int x1)] → W p l e rmX5_shareAt s m args below meth c H locs 0 0 (MQ below (va_Qi Q (BU E) E.2.2.2.1) args s 0 0 E.2.2.2.1) (F0 m 0 ls []) := by
  obtain ⟨⟨hx, hb, hml, hown, hts⟩, hr, hlk, hK, hST, hN⟩ := id X
  intro x1 I H locs ls h hp hl
  unfold wp_X5_shareAt at h
  refine lv_aload_n hx hb dX5_shareAt_0 rfl (lv_at hl 0 rfl) ?_
  refine f_X5_98 X hp dX5_shareAt_1 ?_
  refine lv_ldc (v := (-nI 1000000)) hx hb hown (hts _ tw_k_X5_97) dX5_shareAt_4 ?_
  refine lv_icmp_eq (tgt := 36) hx hb dX5_shareAt_6 (by decide) (fun c1 => ?_) (fun c1 => ?_)
  · have h := h.1 c1
    refine lv_ldc (v := (-nI 1000000)) hx hb hown (hts _ tw_k_X5_97) dX5_shareAt_36 ?_
    exact rt_i X hp h dX5_shareAt_38
  · have h := h.2 c1
    refine lv_iload_n hx hb dX5_shareAt_9 rfl (lv_at hl 1 rfl) ?_
    refine lv_if_lt (tgt := 36) hx hb dX5_shareAt_10 (by decide) (fun c2 => ?_) (fun c2 => ?_)
    · have h := h.1 c2
      refine lv_ldc (v := (-nI 1000000)) hx hb hown (hts _ tw_k_X5_97) dX5_shareAt_36 ?_
      exact rt_i X hp h dX5_shareAt_38
    · have h := h.2 c2
      refine lv_iload_n hx hb dX5_shareAt_13 rfl (lv_at hl 1 rfl) ?_
      refine lv_aload_n hx hb dX5_shareAt_14 rfl (lv_at hl 0 rfl) ?_
      refine f_X5_45 X hp dX5_shareAt_15 ?_
      refine lv_icmp_ge (tgt := 36) hx hb dX5_shareAt_18 (by decide) (fun c3 => ?_) (fun c3 => ?_)
      · have h := h.1 c3
        refine lv_ldc (v := (-nI 1000000)) hx hb hown (hts _ tw_k_X5_97) dX5_shareAt_36 ?_
        exact rt_i X hp h dX5_shareAt_38
      · have h := h.2 c3
        refine lv_iload_n hx hb dX5_shareAt_21 rfl (lv_at hl 1 rfl) ?_
        refine lv_bipush (v := (nI 7)) hx hb dX5_shareAt_22 (by decide) ?_
        refine lv_icmp_ge (tgt := 36) hx hb dX5_shareAt_24 (by decide) (fun c4 => ?_) (fun c4 => ?_)
        · have h := h.1 c4
          refine lv_ldc (v := (-nI 1000000)) hx hb hown (hts _ tw_k_X5_97) dX5_shareAt_36 ?_
          exact rt_i X hp h dX5_shareAt_38
        · have h := h.2 c4
          refine lv_aload_n hx hb dX5_shareAt_27 rfl (lv_at hl 0 rfl) ?_
          refine f_X5_24 X hp dX5_shareAt_28 ?_
          refine lv_iload_n hx hb dX5_shareAt_31 rfl (lv_at hl 1 rfl) ?_
          have hv5 := h.1
          have h := h.2
          refine al_i X hp ar_s312 hv5 dX5_shareAt_32 ?_
          refine lv_goto (tgt := 38) hx hb dX5_shareAt_33 (by decide) ?_
          exact rt_i X hp h dX5_shareAt_38
set_option maxRecDepth 100000 in
theorem C_X5_shareAt {E : EE} {l : Launch} {x1 : Int32} {I : II} {Q : Int32 → II → Prop} (h : wp_X5_shareAt x1 I Q) : Met l yX5_shareAt (Cond.code yX5_shareAt cX5_shareAt 2 (some .int) :: lwT) rmX5_shareAt (va_Pc [.ref (E.2.1 308), .int x1] (PU E I)) (va_Qi Q (BU E) E.2.2.2.1) 0 0 E.2.2.2.1 :=
  ofWalk [.ref (E.2.1 308), .int x1] (by decide) tw_c_X5_shareAt (Nat.le_of_ble_eq_true rfl) (fun p e s m below meth c ls X hp hl => w_X5_shareAt_0 X _ _ _ _ _ h hp hl)

abbrev rmX6_add : Room := { frames := 0, cells := 0, slots := 0, locals := 0 }
theorem vf_X6_add : VF yX6_add RX6 cX6_add 2 (some .boolean) 1 := ⟨tw_in_X6, tw_im_X6_add, tw_se_X6_add, tw_c_X6_add, by decide, by decide, by decide +kernel⟩
def wp_X6_add (x1 : Int32) (I : II) (Q : Int32 → II → Prop) : Prop := (((I 301 2) < (nI 120) → (vp_in (I 301 2) 120 ∧ ∀ I3 : II, I3 = su I 302 (I 301 2).toNatClampNeg x1 → (∀ I5 : II, I5 = su I3 301 2 ((I3 301 2) + (nI 1)) → (Q (nI 1) I5)))) ∧ (¬ (I 301 2) < (nI 120) → (Q (nI 0) I)))
set_option maxHeartbeats 4000000 in
set_option maxRecDepth 100000 in
theorem w_X6_add_0 {E : EE} {p : Program} {l : Launch} {e : Env} {s : State} {m : MethodId} {args : Array Value} {below : List Frame} {meth : Method} {c : Code} {Q : Int32 → II → Prop} (X : CX E p s m args meth c cX6_add 2 (some .boolean) RX6) : ∀ (x1 : Int32) (I : II) (H : Heap) (locs : List Loc) (ls : Array Slot), wp_X6_add x1 I Q → PP E s H locs I → lv_has ls 2 [(0, .ref (E.2.1 301)), (1, .int x1)] → W p l e rmX6_add s m args below meth c H locs 0 0 (MQ below (va_Qi Q (BU E) E.2.2.2.1) args s 0 0 E.2.2.2.1) (F0 m 0 ls []) := by
  obtain ⟨⟨hx, hb, hml, hown, hts⟩, hr, hlk, hK, hST, hN⟩ := id X
  intro x1 I H locs ls h hp hl
  unfold wp_X6_add at h
  refine lv_aload_n hx hb dX6_add_0 rfl (lv_at hl 0 rfl) ?_
  refine f_X6_22 X hp dX6_add_1 ?_
  refine lv_bipush (v := (nI 120)) hx hb dX6_add_4 (by decide) ?_
  refine lv_icmp_lt (tgt := 11) hx hb dX6_add_6 (by decide) (fun c1 => ?_) (fun c1 => ?_)
  · have h := h.1 c1
    refine lv_aload_n hx hb dX6_add_11 rfl (lv_at hl 0 rfl) ?_
    refine f_X6_9 X hp dX6_add_12 ?_
    refine lv_aload_n hx hb dX6_add_15 rfl (lv_at hl 0 rfl) ?_
    refine f_X6_22 X hp dX6_add_16 ?_
    refine lv_iload_n hx hb dX6_add_19 rfl (lv_at hl 1 rfl) ?_
    have hv2 := h.1
    have h := h.2
    refine as_i X hp ar_s302 hv2 dX6_add_20 (fun H locs hp => ?_)
    obtain ⟨I3, e4⟩ : ∃ y, y = su I 302 (I 301 2).toNatClampNeg x1 := ⟨_, rfl⟩
    have hp : PP E s H locs I3 := by rw [e4]; exact hp
    have h := h I3 e4
    refine lv_aload_n hx hb dX6_add_21 rfl (lv_at hl 0 rfl) ?_
    refine lv_dup hx hb dX6_add_22 rfl ?_
    refine f_X6_22 X hp dX6_add_23 ?_
    refine lv_iconst (v := (nI 1)) hx hb dX6_add_26 (by decide) ?_
    refine lv_iadd hx hb dX6_add_27 ?_
    refine g_X6_22 X hp dX6_add_28 (fun H locs hp => ?_)
    obtain ⟨I5, e6⟩ : ∃ y, y = su I3 301 2 ((I3 301 2) + (nI 1)) := ⟨_, rfl⟩
    have hp : PP E s H locs I5 := by rw [e6]; exact hp
    have h := h I5 e6
    refine lv_iconst (v := (nI 1)) hx hb dX6_add_31 (by decide) ?_
    exact rt_z X hp ⟨Or.inr rfl, h⟩ dX6_add_32
  · have h := h.2 c1
    refine lv_iconst (v := (nI 0)) hx hb dX6_add_9 (by decide) ?_
    exact rt_z X hp ⟨Or.inl rfl, h⟩ dX6_add_10
set_option maxRecDepth 100000 in
theorem C_X6_add {E : EE} {l : Launch} {x1 : Int32} {I : II} {Q : Int32 → II → Prop} (h : wp_X6_add x1 I Q) : Met l yX6_add (Cond.code yX6_add cX6_add 2 (some .boolean) :: lwT) rmX6_add (va_Pc [.ref (E.2.1 301), .int x1] (PU E I)) (va_Qi Q (BU E) E.2.2.2.1) 0 0 E.2.2.2.1 :=
  ofWalk [.ref (E.2.1 301), .int x1] (by decide) tw_c_X6_add (Nat.le_of_ble_eq_true rfl) (fun p e s m below meth c ls X hp hl => w_X6_add_0 X _ _ _ _ _ h hp hl)
abbrev rmX6_byteAt : Room := { frames := 0, cells := 0, slots := 0, locals := 0 }
theorem vf_X6_byteAt : VF yX6_byteAt RX6 cX6_byteAt 2 (some .int) 1 := ⟨tw_in_X6, tw_im_X6_byteAt, tw_se_X6_byteAt, tw_c_X6_byteAt, by decide, by decide, by decide +kernel⟩
def wp_X6_byteAt (x1 : Int32) (I : II) (Q : Int32 → II → Prop) : Prop := ((x1 < 0 → (Q (-nI 1000000) I)) ∧ (¬ x1 < 0 → (((I 301 2) ≤ x1 → (Q (-nI 1000000) I)) ∧ (¬ (I 301 2) ≤ x1 → (((nI 120) ≤ x1 → (Q (-nI 1000000) I)) ∧ (¬ (nI 120) ≤ x1 → (vp_in x1 120 ∧ (Q (I 302 x1.toNatClampNeg) I))))))))
set_option maxHeartbeats 4000000 in
set_option maxRecDepth 100000 in
theorem w_X6_byteAt_0 {E : EE} {p : Program} {l : Launch} {e : Env} {s : State} {m : MethodId} {args : Array Value} {below : List Frame} {meth : Method} {c : Code} {Q : Int32 → II → Prop} (X : CX E p s m args meth c cX6_byteAt 2 (some .int) RX6) : ∀ (x1 : Int32) (I : II) (H : Heap) (locs : List Loc) (ls : Array Slot), wp_X6_byteAt x1 I Q → PP E s H locs I → lv_has ls 2 [(0, .ref (E.2.1 301)), (1, .int x1)] → W p l e rmX6_byteAt s m args below meth c H locs 0 0 (MQ below (va_Qi Q (BU E) E.2.2.2.1) args s 0 0 E.2.2.2.1) (F0 m 0 ls []) := by
  obtain ⟨⟨hx, hb, hml, hown, hts⟩, hr, hlk, hK, hST, hN⟩ := id X
  intro x1 I H locs ls h hp hl
  unfold wp_X6_byteAt at h
  refine lv_iload_n hx hb dX6_byteAt_0 rfl (lv_at hl 1 rfl) ?_
  refine lv_if_lt (tgt := 27) hx hb dX6_byteAt_1 (by decide) (fun c1 => ?_) (fun c1 => ?_)
  · have h := h.1 c1
    refine lv_ldc (v := (-nI 1000000)) hx hb hown (hts _ tw_k_X6_69) dX6_byteAt_27 ?_
    exact rt_i X hp h dX6_byteAt_29
  · have h := h.2 c1
    refine lv_iload_n hx hb dX6_byteAt_4 rfl (lv_at hl 1 rfl) ?_
    refine lv_aload_n hx hb dX6_byteAt_5 rfl (lv_at hl 0 rfl) ?_
    refine f_X6_22 X hp dX6_byteAt_6 ?_
    refine lv_icmp_ge (tgt := 27) hx hb dX6_byteAt_9 (by decide) (fun c2 => ?_) (fun c2 => ?_)
    · have h := h.1 c2
      refine lv_ldc (v := (-nI 1000000)) hx hb hown (hts _ tw_k_X6_69) dX6_byteAt_27 ?_
      exact rt_i X hp h dX6_byteAt_29
    · have h := h.2 c2
      refine lv_iload_n hx hb dX6_byteAt_12 rfl (lv_at hl 1 rfl) ?_
      refine lv_bipush (v := (nI 120)) hx hb dX6_byteAt_13 (by decide) ?_
      refine lv_icmp_ge (tgt := 27) hx hb dX6_byteAt_15 (by decide) (fun c3 => ?_) (fun c3 => ?_)
      · have h := h.1 c3
        refine lv_ldc (v := (-nI 1000000)) hx hb hown (hts _ tw_k_X6_69) dX6_byteAt_27 ?_
        exact rt_i X hp h dX6_byteAt_29
      · have h := h.2 c3
        refine lv_aload_n hx hb dX6_byteAt_18 rfl (lv_at hl 0 rfl) ?_
        refine f_X6_9 X hp dX6_byteAt_19 ?_
        refine lv_iload_n hx hb dX6_byteAt_22 rfl (lv_at hl 1 rfl) ?_
        have hv4 := h.1
        have h := h.2
        refine al_i X hp ar_s302 hv4 dX6_byteAt_23 ?_
        refine lv_goto (tgt := 29) hx hb dX6_byteAt_24 (by decide) ?_
        exact rt_i X hp h dX6_byteAt_29
set_option maxRecDepth 100000 in
theorem C_X6_byteAt {E : EE} {l : Launch} {x1 : Int32} {I : II} {Q : Int32 → II → Prop} (h : wp_X6_byteAt x1 I Q) : Met l yX6_byteAt (Cond.code yX6_byteAt cX6_byteAt 2 (some .int) :: lwT) rmX6_byteAt (va_Pc [.ref (E.2.1 301), .int x1] (PU E I)) (va_Qi Q (BU E) E.2.2.2.1) 0 0 E.2.2.2.1 :=
  ofWalk [.ref (E.2.1 301), .int x1] (by decide) tw_c_X6_byteAt (Nat.le_of_ble_eq_true rfl) (fun p e s m below meth c ls X hp hl => w_X6_byteAt_0 X _ _ _ _ _ h hp hl)
abbrev rmX6_next : Room := { frames := 1, cells := 0, slots := 0, locals := 21 }
theorem vf_X6_next : VF yX6_next RX6 cX6_next 1 (some .int) 0 := ⟨tw_in_X6, tw_im_X6_next, tw_se_X6_next, tw_c_X6_next, by decide, by decide, by decide +kernel⟩
def wp_X6_next (I : II) (Q : Int32 → II → Prop) : Prop := (wp_X6_byteAt (I 301 3) I (fun r2 I1 => (Q r2 I1)))
set_option maxHeartbeats 4000000 in
set_option maxRecDepth 100000 in
theorem w_X6_next_0 {E : EE} {p : Program} {l : Launch} {e : Env} {s : State} {m : MethodId} {args : Array Value} {below : List Frame} {meth : Method} {c : Code} {Q : Int32 → II → Prop} (X : CX E p s m args meth c cX6_next 1 (some .int) RX6) : ∀ (I : II) (H : Heap) (locs : List Loc) (ls : Array Slot), wp_X6_next I Q → PP E s H locs I → lv_has ls 1 [(0, .ref (E.2.1 301))] → W p l e rmX6_next s m args below meth c H locs 0 0 (MQ below (va_Qi Q (BU E) E.2.2.2.1) args s 0 0 E.2.2.2.1) (F0 m 0 ls []) := by
  obtain ⟨⟨hx, hb, hml, hown, hts⟩, hr, hlk, hK, hST, hN⟩ := id X
  intro I H locs ls h hp hl
  unfold wp_X6_next at h
  refine lv_aload_n hx hb dX6_next_0 rfl (lv_at hl 0 rfl) ?_
  refine lv_aload_n hx hb dX6_next_1 rfl (lv_at hl 0 rfl) ?_
  refine f_X6_26 X hp dX6_next_2 ?_
  refine ki (kV (As := [.int (I 301 3)]) (rest := []) X hp (C_X6_byteAt  h) tw_ml_X6_78 vf_X6_byteAt ⟨rfl, rfl, Nat.le_of_ble_eq_true rfl, Nat.le_of_ble_eq_true rfl⟩ (pr_rcv X hp (k := 301) (by decide) (ob_301 _) (q := (RX6, TX6, 6)) rfl) rfl hl.1 rfl (Nat.le_of_ble_eq_true rfl) dX6_next_5) hp (fun r2 I1 H locs h hp => ?_)
  exact rt_i X hp h dX6_next_8
set_option maxRecDepth 100000 in
theorem C_X6_next {E : EE} {l : Launch} {I : II} {Q : Int32 → II → Prop} (h : wp_X6_next I Q) : Met l yX6_next (Cond.code yX6_next cX6_next 1 (some .int) :: lwT) rmX6_next (va_Pc [.ref (E.2.1 301)] (PU E I)) (va_Qi Q (BU E) E.2.2.2.1) 0 0 E.2.2.2.1 :=
  ofWalk [.ref (E.2.1 301)] (by decide) tw_c_X6_next (Nat.le_of_ble_eq_true rfl) (fun p e s m below meth c ls X hp hl => w_X6_next_0 X _ _ _ _ h hp hl)
abbrev rmX6_takeByte : Room := { frames := 2, cells := 0, slots := 0, locals := 41 }
theorem vf_X6_takeByte : VF yX6_takeByte RX6 cX6_takeByte 2 none 1 := ⟨tw_in_X6, tw_im_X6_takeByte, tw_se_X6_takeByte, tw_c_X6_takeByte, by decide, by decide, by decide +kernel⟩
def wp_X6_takeByte (x1 : Int32) (I : II) (Q : II → Prop) : Prop := (((I 301 4) = 0 → (wp_X6_next I (fun r3 I2 => ((¬ r3 = x1 → (∀ I5 : II, I5 = su I2 301 4 (nI 1) → (Q I5))) ∧ (r3 = x1 → (∀ I7 : II, I7 = su I2 301 3 ((I2 301 3) + (nI 1)) → (Q I7))))))) ∧ (¬ (I 301 4) = 0 → (Q I)))
set_option maxHeartbeats 4000000 in
set_option maxRecDepth 100000 in
theorem w_X6_takeByte_0 {E : EE} {p : Program} {l : Launch} {e : Env} {s : State} {m : MethodId} {args : Array Value} {below : List Frame} {meth : Method} {c : Code} {Q : II → Prop} (X : CX E p s m args meth c cX6_takeByte 2 none RX6) : ∀ (x1 : Int32) (I : II) (H : Heap) (locs : List Loc) (ls : Array Slot), wp_X6_takeByte x1 I Q → PP E s H locs I → lv_has ls 2 [(0, .ref (E.2.1 301)), (1, .int x1)] → W p l e rmX6_takeByte s m args below meth c H locs 0 0 (MQ below (va_Qv Q (BU E) E.2.2.2.1) args s 0 0 E.2.2.2.1) (F0 m 0 ls []) := by
  obtain ⟨⟨hx, hb, hml, hown, hts⟩, hr, hlk, hK, hST, hN⟩ := id X
  intro x1 I H locs ls h hp hl
  unfold wp_X6_takeByte at h
  refine lv_aload_n hx hb dX6_takeByte_0 rfl (lv_at hl 0 rfl) ?_
  refine f_X6_29 X hp dX6_takeByte_1 ?_
  refine lv_if_eq (tgt := 8) hx hb dX6_takeByte_4 (by decide) (fun c1 => ?_) (fun c1 => ?_)
  · have h := h.1 c1
    refine lv_aload_n hx hb dX6_takeByte_8 rfl (lv_at hl 0 rfl) ?_
    refine ki (kV (As := []) (rest := []) X hp (C_X6_next  h) tw_ml_X6_61 vf_X6_next ⟨rfl, rfl, Nat.le_of_ble_eq_true rfl, Nat.le_of_ble_eq_true rfl⟩ (pr_rcv X hp (k := 301) (by decide) (ob_301 _) (q := (RX6, TX6, 6)) rfl) rfl hl.1 rfl (Nat.le_of_ble_eq_true rfl) dX6_takeByte_9) hp (fun r3 I2 H locs h hp => ?_)
    refine lv_iload_n hx hb dX6_takeByte_12 rfl (lv_at hl 1 rfl) ?_
    refine lv_icmp_ne (tgt := 29) hx hb dX6_takeByte_13 (by decide) (fun c4 => ?_) (fun c4 => ?_)
    · have h := h.1 c4
      refine lv_aload_n hx hb dX6_takeByte_29 rfl (lv_at hl 0 rfl) ?_
      refine lv_iconst (v := (nI 1)) hx hb dX6_takeByte_30 (by decide) ?_
      refine g_X6_29 X hp dX6_takeByte_31 (fun H locs hp => ?_)
      obtain ⟨I5, e6⟩ : ∃ y, y = su I2 301 4 (nI 1) := ⟨_, rfl⟩
      have hp : PP E s H locs I5 := by rw [e6]; exact hp
      have h := h I5 e6
      exact rt_v X hp h dX6_takeByte_34
    · have h := h.2 c4
      refine lv_aload_n hx hb dX6_takeByte_16 rfl (lv_at hl 0 rfl) ?_
      refine lv_dup hx hb dX6_takeByte_17 rfl ?_
      refine f_X6_26 X hp dX6_takeByte_18 ?_
      refine lv_iconst (v := (nI 1)) hx hb dX6_takeByte_21 (by decide) ?_
      refine lv_iadd hx hb dX6_takeByte_22 ?_
      refine g_X6_26 X hp dX6_takeByte_23 (fun H locs hp => ?_)
      obtain ⟨I7, e8⟩ : ∃ y, y = su I2 301 3 ((I2 301 3) + (nI 1)) := ⟨_, rfl⟩
      have hp : PP E s H locs I7 := by rw [e8]; exact hp
      have h := h I7 e8
      refine lv_goto (tgt := 34) hx hb dX6_takeByte_26 (by decide) ?_
      exact rt_v X hp h dX6_takeByte_34
  · have h := h.2 c1
    exact rt_v X hp h dX6_takeByte_7
set_option maxRecDepth 100000 in
theorem C_X6_takeByte {E : EE} {l : Launch} {x1 : Int32} {I : II} {Q : II → Prop} (h : wp_X6_takeByte x1 I Q) : Met l yX6_takeByte (Cond.code yX6_takeByte cX6_takeByte 2 none :: lwT) rmX6_takeByte (va_Pc [.ref (E.2.1 301), .int x1] (PU E I)) (va_Qv Q (BU E) E.2.2.2.1) 0 0 E.2.2.2.1 :=
  ofWalk [.ref (E.2.1 301), .int x1] (by decide) tw_c_X6_takeByte (Nat.le_of_ble_eq_true rfl) (fun p e s m below meth c ls X hp hl => w_X6_takeByte_0 X _ _ _ _ _ h hp hl)
abbrev rmX6_isFigure : Room := { frames := 1, cells := 0, slots := 0, locals := 21 }
theorem vf_X6_isFigure : VF yX6_isFigure RX6 cX6_isFigure 3 (some .boolean) 1 := ⟨tw_in_X6, tw_im_X6_isFigure, tw_se_X6_isFigure, tw_c_X6_isFigure, by decide, by decide, by decide +kernel⟩
def wp_X6_isFigure (x1 : Int32) (I : II) (Q : Int32 → II → Prop) : Prop := (wp_X6_byteAt x1 I (fun r2 I1 => ((r2 < (nI 48) → (Q (nI 0) I1)) ∧ (¬ r2 < (nI 48) → (((nI 57) < r2 → (Q (nI 0) I1)) ∧ (¬ (nI 57) < r2 → (Q (nI 1) I1)))))))
set_option maxHeartbeats 4000000 in
set_option maxRecDepth 100000 in
theorem w_X6_isFigure_0 {E : EE} {p : Program} {l : Launch} {e : Env} {s : State} {m : MethodId} {args : Array Value} {below : List Frame} {meth : Method} {c : Code} {Q : Int32 → II → Prop} (X : CX E p s m args meth c cX6_isFigure 3 (some .boolean) RX6) : ∀ (x1 : Int32) (I : II) (H : Heap) (locs : List Loc) (ls : Array Slot), wp_X6_isFigure x1 I Q → PP E s H locs I → lv_has ls 3 [(0, .ref (E.2.1 301)), (1, .int x1)] → W p l e rmX6_isFigure s m args below meth c H locs 0 0 (MQ below (va_Qi Q (BU E) E.2.2.2.1) args s 0 0 E.2.2.2.1) (F0 m 0 ls []) := by
  obtain ⟨⟨hx, hb, hml, hown, hts⟩, hr, hlk, hK, hST, hN⟩ := id X
  intro x1 I H locs ls h hp hl
  unfold wp_X6_isFigure at h
  refine lv_aload_n hx hb dX6_isFigure_0 rfl (lv_at hl 0 rfl) ?_
  refine lv_iload_n hx hb dX6_isFigure_1 rfl (lv_at hl 1 rfl) ?_
  refine ki (kV (As := [.int x1]) (rest := []) X hp (C_X6_byteAt  h) tw_ml_X6_78 vf_X6_byteAt ⟨rfl, rfl, Nat.le_of_ble_eq_true rfl, Nat.le_of_ble_eq_true rfl⟩ (pr_rcv X hp (k := 301) (by decide) (ob_301 _) (q := (RX6, TX6, 6)) rfl) rfl hl.1 rfl (Nat.le_of_ble_eq_true rfl) dX6_isFigure_2) hp (fun r2 I1 H locs h hp => ?_)
  refine lv_istore_n (lv' := [(2, .int r2), (0, .ref (E.2.1 301)), (1, .int x1)]) hx hb dX6_isFigure_5 rfl hl (by decide) rfl (fun ls hl => ?_)
  refine lv_iload_n hx hb dX6_isFigure_6 rfl (lv_at hl 0 rfl) ?_
  refine lv_bipush (v := (nI 48)) hx hb dX6_isFigure_7 (by decide) ?_
  refine lv_icmp_lt (tgt := 22) hx hb dX6_isFigure_9 (by decide) (fun c3 => ?_) (fun c3 => ?_)
  · have h := h.1 c3
    refine lv_iconst (v := (nI 0)) hx hb dX6_isFigure_22 (by decide) ?_
    exact rt_z X hp ⟨Or.inl rfl, h⟩ dX6_isFigure_23
  · have h := h.2 c3
    refine lv_iload_n hx hb dX6_isFigure_12 rfl (lv_at hl 0 rfl) ?_
    refine lv_bipush (v := (nI 57)) hx hb dX6_isFigure_13 (by decide) ?_
    refine lv_icmp_gt (tgt := 22) hx hb dX6_isFigure_15 (by decide) (fun c4 => ?_) (fun c4 => ?_)
    · have h := h.1 c4
      refine lv_iconst (v := (nI 0)) hx hb dX6_isFigure_22 (by decide) ?_
      exact rt_z X hp ⟨Or.inl rfl, h⟩ dX6_isFigure_23
    · have h := h.2 c4
      refine lv_iconst (v := (nI 1)) hx hb dX6_isFigure_18 (by decide) ?_
      refine lv_goto (tgt := 23) hx hb dX6_isFigure_19 (by decide) ?_
      exact rt_z X hp ⟨Or.inr rfl, h⟩ dX6_isFigure_23
set_option maxRecDepth 100000 in
theorem C_X6_isFigure {E : EE} {l : Launch} {x1 : Int32} {I : II} {Q : Int32 → II → Prop} (h : wp_X6_isFigure x1 I Q) : Met l yX6_isFigure (Cond.code yX6_isFigure cX6_isFigure 3 (some .boolean) :: lwT) rmX6_isFigure (va_Pc [.ref (E.2.1 301), .int x1] (PU E I)) (va_Qi Q (BU E) E.2.2.2.1) 0 0 E.2.2.2.1 :=
  ofWalk [.ref (E.2.1 301), .int x1] (by decide) tw_c_X6_isFigure (Nat.le_of_ble_eq_true rfl) (fun p e s m below meth c ls X hp hl => w_X6_isFigure_0 X _ _ _ _ _ h hp hl)
abbrev rmX6_takeNumber : Room := { frames := 2, cells := 0, slots := 0, locals := 43 }
theorem vf_X6_takeNumber : VF yX6_takeNumber RX6 cX6_takeNumber 5 (some .int) 2 := ⟨tw_in_X6, tw_im_X6_takeNumber, tw_se_X6_takeNumber, tw_c_X6_takeNumber, by decide, by decide, by decide +kernel⟩
def wp_X6_takeNumber_14 (Q : Int32 → II → Prop) (k59 : Int32 → Int32 → Int32 → Int32 → II → Prop) : Nat → Int32 → Int32 → Int32 → Int32 → II → Prop
  | 0, _, _, _, _, _ => False
  | n + 1, x1, x2, x3, x4, I => (((nI 3) ≤ x3 → (k59 x1 x2 x3 x4 I)) ∧ (¬ (nI 3) ≤ x3 → (wp_X6_isFigure ((I 301 3) + x3) I (fun r3 I2 => ((r3 = 0 → (k59 x1 x2 x3 x4 I2)) ∧ (¬ r3 = 0 → (wp_X6_byteAt ((I2 301 3) + x3) I2 (fun r6 I5 => (wp_X6_takeNumber_14 Q k59 n x1 x2 (x3 + (nI 1)) ((((nI 10) * x4) + r6) - (nI 48)) I5)))))))))
set_option maxHeartbeats 4000000 in
set_option maxRecDepth 100000 in
theorem w_X6_takeNumber_14 {E : EE} {p : Program} {l : Launch} {e : Env} {s : State} {m : MethodId} {args : Array Value} {below : List Frame} {meth : Method} {c : Code} {Q : Int32 → II → Prop} {k59 : Int32 → Int32 → Int32 → Int32 → II → Prop} (X : CX E p s m args meth c cX6_takeNumber 5 (some .int) RX6) (K59 : ∀ (x1 : Int32) (x2 : Int32) (x3 : Int32) (x4 : Int32) (I : II) (H : Heap) (locs : List Loc) (ls : Array Slot), k59 x1 x2 x3 x4 I → PP E s H locs I → lv_has ls 5 [(0, .ref (E.2.1 301)), (1, .int x1), (2, .int x2), (3, .int x3), (4, .int x4)] → W p l e rmX6_takeNumber s m args below meth c H locs 0 0 (MQ below (va_Qi Q (BU E) E.2.2.2.1) args s 0 0 E.2.2.2.1) (F0 m 59 ls [])) : ∀ (n : Nat) (x1 : Int32) (x2 : Int32) (x3 : Int32) (x4 : Int32) (I : II) (H : Heap) (locs : List Loc) (ls : Array Slot), wp_X6_takeNumber_14 Q k59 n x1 x2 x3 x4 I → PP E s H locs I → lv_has ls 5 [(0, .ref (E.2.1 301)), (1, .int x1), (2, .int x2), (3, .int x3), (4, .int x4)] → W p l e rmX6_takeNumber s m args below meth c H locs 0 0 (MQ below (va_Qi Q (BU E) E.2.2.2.1) args s 0 0 E.2.2.2.1) (F0 m 14 ls []) := by
  obtain ⟨⟨hx, hb, hml, hown, hts⟩, hr, hlk, hK, hST, hN⟩ := id X
  intro n
  induction n with
  | zero =>
    intro x1 x2 x3 x4 I H locs ls h hp hl
    exact False.elim h
  | succ n ih =>
    intro x1 x2 x3 x4 I H locs ls h hp hl
    rw [wp_X6_takeNumber_14.eq_2] at h
    refine lv_iload_n hx hb dX6_takeNumber_14 rfl (lv_at hl 3 rfl) ?_
    refine lv_iconst (v := (nI 3)) hx hb dX6_takeNumber_15 (by decide) ?_
    refine lv_icmp_ge (tgt := 59) hx hb dX6_takeNumber_16 (by decide) (fun c1 => ?_) (fun c1 => ?_)
    · have h := h.1 c1
      exact K59 _ _ _ _ _ _ _ _ h hp (lv_sub hl [0, 1, 2, 3, 4] rfl)
    · have h := h.2 c1
      refine lv_aload_n hx hb dX6_takeNumber_19 rfl (lv_at hl 0 rfl) ?_
      refine lv_aload_n hx hb dX6_takeNumber_20 rfl (lv_at hl 0 rfl) ?_
      refine f_X6_26 X hp dX6_takeNumber_21 ?_
      refine lv_iload_n hx hb dX6_takeNumber_24 rfl (lv_at hl 3 rfl) ?_
      refine lv_iadd hx hb dX6_takeNumber_25 ?_
      refine ki (kV (As := [.int ((I 301 3) + x3)]) (rest := []) X hp (C_X6_isFigure  h) tw_ml_X6_81 vf_X6_isFigure ⟨rfl, rfl, Nat.le_of_ble_eq_true rfl, Nat.le_of_ble_eq_true rfl⟩ (pr_rcv X hp (k := 301) (by decide) (ob_301 _) (q := (RX6, TX6, 6)) rfl) rfl hl.1 rfl (Nat.le_of_ble_eq_true rfl) dX6_takeNumber_26) hp (fun r3 I2 H locs h hp => ?_)
      refine lv_if_eq (tgt := 59) hx hb dX6_takeNumber_29 (by decide) (fun c4 => ?_) (fun c4 => ?_)
      · have h := h.1 c4
        exact K59 _ _ _ _ _ _ _ _ h hp (lv_sub hl [0, 1, 2, 3, 4] rfl)
      · have h := h.2 c4
        refine lv_bipush (v := (nI 10)) hx hb dX6_takeNumber_32 (by decide) ?_
        refine lv_iload hx hb dX6_takeNumber_34 (lv_at hl 4 rfl) ?_
        refine lv_imul hx hb dX6_takeNumber_36 ?_
        refine lv_aload_n hx hb dX6_takeNumber_37 rfl (lv_at hl 0 rfl) ?_
        refine lv_aload_n hx hb dX6_takeNumber_38 rfl (lv_at hl 0 rfl) ?_
        refine f_X6_26 X hp dX6_takeNumber_39 ?_
        refine lv_iload_n hx hb dX6_takeNumber_42 rfl (lv_at hl 3 rfl) ?_
        refine lv_iadd hx hb dX6_takeNumber_43 ?_
        refine ki (kV (As := [.int ((I2 301 3) + x3)]) (rest := [.int ((nI 10) * x4)]) X hp (C_X6_byteAt  h) tw_ml_X6_78 vf_X6_byteAt ⟨rfl, rfl, Nat.le_of_ble_eq_true rfl, Nat.le_of_ble_eq_true rfl⟩ (pr_rcv X hp (k := 301) (by decide) (ob_301 _) (q := (RX6, TX6, 6)) rfl) rfl hl.1 rfl (Nat.le_of_ble_eq_true rfl) dX6_takeNumber_44) hp (fun r6 I5 H locs h hp => ?_)
        refine lv_iadd hx hb dX6_takeNumber_47 ?_
        refine lv_bipush (v := (nI 48)) hx hb dX6_takeNumber_48 (by decide) ?_
        refine lv_isub hx hb dX6_takeNumber_50 ?_
        refine lv_istore (lv' := [(4, .int ((((nI 10) * x4) + r6) - (nI 48))), (0, .ref (E.2.1 301)), (1, .int x1), (2, .int x2), (3, .int x3)]) hx hb dX6_takeNumber_51 hl (by decide) rfl (fun ls hl => ?_)
        refine lv_iinc (v := (x3 + (nI 1))) (lv' := [(3, .int (x3 + (nI 1))), (4, .int ((((nI 10) * x4) + r6) - (nI 48))), (0, .ref (E.2.1 301)), (1, .int x1), (2, .int x2)]) hx hb dX6_takeNumber_53 hl (k := 4) rfl rfl (by decide) rfl (fun ls hl => ?_)
        refine lv_goto (tgt := 14) hx hb dX6_takeNumber_56 (by decide) ?_
        exact ih _ _ _ _ _ _ _ _ h hp (lv_sub hl [2, 3, 4, 0, 1] rfl)
def wp_X6_takeNumber_68 (Q : Int32 → II → Prop) (x4 : Int32) (I : II) : Prop := (∀ I1 : II, I1 = su I 301 4 (nI 1) → (Q x4 I1))
set_option maxHeartbeats 4000000 in
set_option maxRecDepth 100000 in
theorem w_X6_takeNumber_68 {E : EE} {p : Program} {l : Launch} {e : Env} {s : State} {m : MethodId} {args : Array Value} {below : List Frame} {meth : Method} {c : Code} {Q : Int32 → II → Prop} (X : CX E p s m args meth c cX6_takeNumber 5 (some .int) RX6) : ∀ (x4 : Int32) (I : II) (H : Heap) (locs : List Loc) (ls : Array Slot), wp_X6_takeNumber_68 Q x4 I → PP E s H locs I → lv_has ls 5 [(0, .ref (E.2.1 301)), (4, .int x4)] → W p l e rmX6_takeNumber s m args below meth c H locs 0 0 (MQ below (va_Qi Q (BU E) E.2.2.2.1) args s 0 0 E.2.2.2.1) (F0 m 68 ls []) := by
  obtain ⟨⟨hx, hb, hml, hown, hts⟩, hr, hlk, hK, hST, hN⟩ := id X
  intro x4 I H locs ls h hp hl
  unfold wp_X6_takeNumber_68 at h
  refine lv_aload_n hx hb dX6_takeNumber_68 rfl (lv_at hl 0 rfl) ?_
  refine lv_iconst (v := (nI 1)) hx hb dX6_takeNumber_69 (by decide) ?_
  refine g_X6_29 X hp dX6_takeNumber_70 (fun H locs hp => ?_)
  obtain ⟨I1, e2⟩ : ∃ y, y = su I 301 4 (nI 1) := ⟨_, rfl⟩
  have hp : PP E s H locs I1 := by rw [e2]; exact hp
  have h := h I1 e2
  refine lv_goto (tgt := 106) hx hb dX6_takeNumber_73 (by decide) ?_
  refine lv_iload hx hb dX6_takeNumber_106 (lv_at hl 1 rfl) ?_
  exact rt_i X hp h dX6_takeNumber_108
def wp_X6_takeNumber_88 (Q : Int32 → II → Prop) (x4 : Int32) (I : II) : Prop := (∀ I1 : II, I1 = su I 301 4 (nI 2) → (Q x4 I1))
set_option maxHeartbeats 4000000 in
set_option maxRecDepth 100000 in
theorem w_X6_takeNumber_88 {E : EE} {p : Program} {l : Launch} {e : Env} {s : State} {m : MethodId} {args : Array Value} {below : List Frame} {meth : Method} {c : Code} {Q : Int32 → II → Prop} (X : CX E p s m args meth c cX6_takeNumber 5 (some .int) RX6) : ∀ (x4 : Int32) (I : II) (H : Heap) (locs : List Loc) (ls : Array Slot), wp_X6_takeNumber_88 Q x4 I → PP E s H locs I → lv_has ls 5 [(0, .ref (E.2.1 301)), (4, .int x4)] → W p l e rmX6_takeNumber s m args below meth c H locs 0 0 (MQ below (va_Qi Q (BU E) E.2.2.2.1) args s 0 0 E.2.2.2.1) (F0 m 88 ls []) := by
  obtain ⟨⟨hx, hb, hml, hown, hts⟩, hr, hlk, hK, hST, hN⟩ := id X
  intro x4 I H locs ls h hp hl
  unfold wp_X6_takeNumber_88 at h
  refine lv_aload_n hx hb dX6_takeNumber_88 rfl (lv_at hl 0 rfl) ?_
  refine lv_iconst (v := (nI 2)) hx hb dX6_takeNumber_89 (by decide) ?_
  refine g_X6_29 X hp dX6_takeNumber_90 (fun H locs hp => ?_)
  obtain ⟨I1, e2⟩ : ∃ y, y = su I 301 4 (nI 2) := ⟨_, rfl⟩
  have hp : PP E s H locs I1 := by rw [e2]; exact hp
  have h := h I1 e2
  refine lv_goto (tgt := 106) hx hb dX6_takeNumber_93 (by decide) ?_
  refine lv_iload hx hb dX6_takeNumber_106 (lv_at hl 1 rfl) ?_
  exact rt_i X hp h dX6_takeNumber_108
def wp_X6_takeNumber_59 (Q : Int32 → II → Prop) (x1 : Int32) (x2 : Int32) (x3 : Int32) (x4 : Int32) (I : II) : Prop := ((x3 = 0 → (wp_X6_takeNumber_68 Q x4 I)) ∧ (¬ x3 = 0 → ((x3 ≤ (nI 2) → ((x4 < x1 → (wp_X6_takeNumber_88 Q x4 I)) ∧ (¬ x4 < x1 → ((x4 ≤ x2 → (∀ I5 : II, I5 = su I 301 3 ((I 301 3) + x3) → (Q x4 I5))) ∧ (¬ x4 ≤ x2 → (wp_X6_takeNumber_88 Q x4 I)))))) ∧ (¬ x3 ≤ (nI 2) → (wp_X6_takeNumber_68 Q x4 I)))))
set_option maxHeartbeats 4000000 in
set_option maxRecDepth 100000 in
theorem w_X6_takeNumber_59 {E : EE} {p : Program} {l : Launch} {e : Env} {s : State} {m : MethodId} {args : Array Value} {below : List Frame} {meth : Method} {c : Code} {Q : Int32 → II → Prop} (X : CX E p s m args meth c cX6_takeNumber 5 (some .int) RX6) : ∀ (x1 : Int32) (x2 : Int32) (x3 : Int32) (x4 : Int32) (I : II) (H : Heap) (locs : List Loc) (ls : Array Slot), wp_X6_takeNumber_59 Q x1 x2 x3 x4 I → PP E s H locs I → lv_has ls 5 [(0, .ref (E.2.1 301)), (1, .int x1), (2, .int x2), (3, .int x3), (4, .int x4)] → W p l e rmX6_takeNumber s m args below meth c H locs 0 0 (MQ below (va_Qi Q (BU E) E.2.2.2.1) args s 0 0 E.2.2.2.1) (F0 m 59 ls []) := by
  obtain ⟨⟨hx, hb, hml, hown, hts⟩, hr, hlk, hK, hST, hN⟩ := id X
  intro x1 x2 x3 x4 I H locs ls h hp hl
  unfold wp_X6_takeNumber_59 at h
  refine lv_iload_n hx hb dX6_takeNumber_59 rfl (lv_at hl 3 rfl) ?_
  refine lv_if_eq (tgt := 68) hx hb dX6_takeNumber_60 (by decide) (fun c1 => ?_) (fun c1 => ?_)
  · have h := h.1 c1
    exact w_X6_takeNumber_68 X  _ _ _ _ _ h hp (lv_sub hl [0, 4] rfl)
  · have h := h.2 c1
    refine lv_iload_n hx hb dX6_takeNumber_63 rfl (lv_at hl 3 rfl) ?_
    refine lv_iconst (v := (nI 2)) hx hb dX6_takeNumber_64 (by decide) ?_
    refine lv_icmp_le (tgt := 76) hx hb dX6_takeNumber_65 (by decide) (fun c2 => ?_) (fun c2 => ?_)
    · have h := h.1 c2
      refine lv_iload hx hb dX6_takeNumber_76 (lv_at hl 4 rfl) ?_
      refine lv_iload_n hx hb dX6_takeNumber_78 rfl (lv_at hl 1 rfl) ?_
      refine lv_icmp_lt (tgt := 88) hx hb dX6_takeNumber_79 (by decide) (fun c3 => ?_) (fun c3 => ?_)
      · have h := h.1 c3
        exact w_X6_takeNumber_88 X  _ _ _ _ _ h hp (lv_sub hl [0, 4] rfl)
      · have h := h.2 c3
        refine lv_iload hx hb dX6_takeNumber_82 (lv_at hl 4 rfl) ?_
        refine lv_iload_n hx hb dX6_takeNumber_84 rfl (lv_at hl 2 rfl) ?_
        refine lv_icmp_le (tgt := 96) hx hb dX6_takeNumber_85 (by decide) (fun c4 => ?_) (fun c4 => ?_)
        · have h := h.1 c4
          refine lv_aload_n hx hb dX6_takeNumber_96 rfl (lv_at hl 0 rfl) ?_
          refine lv_dup hx hb dX6_takeNumber_97 rfl ?_
          refine f_X6_26 X hp dX6_takeNumber_98 ?_
          refine lv_iload_n hx hb dX6_takeNumber_101 rfl (lv_at hl 3 rfl) ?_
          refine lv_iadd hx hb dX6_takeNumber_102 ?_
          refine g_X6_26 X hp dX6_takeNumber_103 (fun H locs hp => ?_)
          obtain ⟨I5, e6⟩ : ∃ y, y = su I 301 3 ((I 301 3) + x3) := ⟨_, rfl⟩
          have hp : PP E s H locs I5 := by rw [e6]; exact hp
          have h := h I5 e6
          refine lv_iload hx hb dX6_takeNumber_106 (lv_at hl 4 rfl) ?_
          exact rt_i X hp h dX6_takeNumber_108
        · have h := h.2 c4
          exact w_X6_takeNumber_88 X  _ _ _ _ _ h hp (lv_sub hl [0, 4] rfl)
    · have h := h.2 c2
      exact w_X6_takeNumber_68 X  _ _ _ _ _ h hp (lv_sub hl [0, 4] rfl)
def wp_X6_takeNumber (x1 : Int32) (x2 : Int32) (I : II) (Q : Int32 → II → Prop) : Prop := (((I 301 4) = 0 → (∃ n52, wp_X6_takeNumber_14 Q (fun x1 x2 x3 x4 I => (wp_X6_takeNumber_59 Q x1 x2 x3 x4 I)) n52 x1 x2 (nI 0) (nI 0) I)) ∧ (¬ (I 301 4) = 0 → (Q (nI 0) I)))
set_option maxHeartbeats 4000000 in
set_option maxRecDepth 100000 in
theorem w_X6_takeNumber_0 {E : EE} {p : Program} {l : Launch} {e : Env} {s : State} {m : MethodId} {args : Array Value} {below : List Frame} {meth : Method} {c : Code} {Q : Int32 → II → Prop} (X : CX E p s m args meth c cX6_takeNumber 5 (some .int) RX6) : ∀ (x1 : Int32) (x2 : Int32) (I : II) (H : Heap) (locs : List Loc) (ls : Array Slot), wp_X6_takeNumber x1 x2 I Q → PP E s H locs I → lv_has ls 5 [(0, .ref (E.2.1 301)), (1, .int x1), (2, .int x2)] → W p l e rmX6_takeNumber s m args below meth c H locs 0 0 (MQ below (va_Qi Q (BU E) E.2.2.2.1) args s 0 0 E.2.2.2.1) (F0 m 0 ls []) := by
  obtain ⟨⟨hx, hb, hml, hown, hts⟩, hr, hlk, hK, hST, hN⟩ := id X
  intro x1 x2 I H locs ls h hp hl
  unfold wp_X6_takeNumber at h
  refine lv_aload_n hx hb dX6_takeNumber_0 rfl (lv_at hl 0 rfl) ?_
  refine f_X6_29 X hp dX6_takeNumber_1 ?_
  refine lv_if_eq (tgt := 9) hx hb dX6_takeNumber_4 (by decide) (fun c1 => ?_) (fun c1 => ?_)
  · have h := h.1 c1
    refine lv_iconst (v := (nI 0)) hx hb dX6_takeNumber_9 (by decide) ?_
    refine lv_istore_n (lv' := [(3, .int (nI 0)), (0, .ref (E.2.1 301)), (1, .int x1), (2, .int x2)]) hx hb dX6_takeNumber_10 rfl hl (by decide) rfl (fun ls hl => ?_)
    refine lv_iconst (v := (nI 0)) hx hb dX6_takeNumber_11 (by decide) ?_
    refine lv_istore (lv' := [(4, .int (nI 0)), (3, .int (nI 0)), (0, .ref (E.2.1 301)), (1, .int x1), (2, .int x2)]) hx hb dX6_takeNumber_12 hl (by decide) rfl (fun ls hl => ?_)
    obtain ⟨n52, h⟩ := h
    refine w_X6_takeNumber_14 X ?_ n52 _ _ _ _ _ _ _ _ h hp (lv_sub hl [2, 3, 4, 1, 0] rfl)
    · intro x1 x2 x3 x4 I H locs ls h hp hl
      exact w_X6_takeNumber_59 X  _ _ _ _ _ _ _ _ h hp (lv_sub hl [0, 1, 2, 3, 4] rfl)
  · have h := h.2 c1
    refine lv_iconst (v := (nI 0)) hx hb dX6_takeNumber_7 (by decide) ?_
    exact rt_i X hp h dX6_takeNumber_8
set_option maxRecDepth 100000 in
theorem C_X6_takeNumber {E : EE} {l : Launch} {x1 : Int32} {x2 : Int32} {I : II} {Q : Int32 → II → Prop} (h : wp_X6_takeNumber x1 x2 I Q) : Met l yX6_takeNumber (Cond.code yX6_takeNumber cX6_takeNumber 5 (some .int) :: lwT) rmX6_takeNumber (va_Pc [.ref (E.2.1 301), .int x1, .int x2] (PU E I)) (va_Qi Q (BU E) E.2.2.2.1) 0 0 E.2.2.2.1 :=
  ofWalk [.ref (E.2.1 301), .int x1, .int x2] (by decide) tw_c_X6_takeNumber (Nat.le_of_ble_eq_true rfl) (fun p e s m below meth c ls X hp hl => w_X6_takeNumber_0 X _ _ _ _ _ _ h hp hl)
abbrev rmX6_readLaw : Room := { frames := 3, cells := 0, slots := 0, locals := 67 }
theorem vf_X6_readLaw : VF yX6_readLaw RX6 cX6_readLaw 1 none 0 := ⟨tw_in_X6, tw_im_X6_readLaw, tw_se_X6_readLaw, tw_c_X6_readLaw, by decide, by decide, by decide +kernel⟩
def wp_X6_readLaw (I : II) (Q : II → Prop) : Prop := (wp_X6_takeByte (nI 98) I (fun I1 => (wp_X6_takeNumber (nI 0) (nI 20) I1 (fun r4 I3 => (∀ I5 : II, I5 = su I3 (8 * 1) 0 r4 → (wp_X6_takeByte (nI 44) I5 (fun I7 => (wp_X6_takeNumber (nI 1) (nI 20) I7 (fun r10 I9 => (∀ I11 : II, I11 = su I9 (8 * 1) 1 r10 → (wp_X6_takeByte (nI 59) I11 (fun I13 => (Q I13)))))))))))))
set_option maxHeartbeats 4000000 in
set_option maxRecDepth 100000 in
theorem w_X6_readLaw_0 {E : EE} {p : Program} {l : Launch} {e : Env} {s : State} {m : MethodId} {args : Array Value} {below : List Frame} {meth : Method} {c : Code} {Q : II → Prop} (X : CX E p s m args meth c cX6_readLaw 1 none RX6) : ∀ (I : II) (H : Heap) (locs : List Loc) (ls : Array Slot), wp_X6_readLaw I Q → PP E s H locs I → lv_has ls 1 [(0, .ref (E.2.1 301))] → W p l e rmX6_readLaw s m args below meth c H locs 0 0 (MQ below (va_Qv Q (BU E) E.2.2.2.1) args s 0 0 E.2.2.2.1) (F0 m 0 ls []) := by
  obtain ⟨⟨hx, hb, hml, hown, hts⟩, hr, hlk, hK, hST, hN⟩ := id X
  intro I H locs ls h hp hl
  unfold wp_X6_readLaw at h
  refine lv_aload_n hx hb dX6_readLaw_0 rfl (lv_at hl 0 rfl) ?_
  refine lv_bipush (v := (nI 98)) hx hb dX6_readLaw_1 (by decide) ?_
  refine kv (kV (As := [.int (nI 98)]) (rest := []) X hp (C_X6_takeByte  h) tw_ml_X6_47 vf_X6_takeByte ⟨rfl, rfl, Nat.le_of_ble_eq_true rfl, Nat.le_of_ble_eq_true rfl⟩ (pr_rcv X hp (k := 301) (by decide) (ob_301 _) (q := (RX6, TX6, 6)) rfl) rfl hl.1 rfl (Nat.le_of_ble_eq_true rfl) dX6_readLaw_3) hp (fun I1 H locs h hp => ?_)
  refine lv_aload_n hx hb dX6_readLaw_6 rfl (lv_at hl 0 rfl) ?_
  refine f_X6_18 X hp dX6_readLaw_7 ?_
  refine lv_aload_n hx hb dX6_readLaw_10 rfl (lv_at hl 0 rfl) ?_
  refine lv_iconst (v := (nI 0)) hx hb dX6_readLaw_11 (by decide) ?_
  refine lv_bipush (v := (nI 20)) hx hb dX6_readLaw_12 (by decide) ?_
  refine ki (kV (As := [.int (nI 0), .int (nI 20)]) (rest := [.ref (E.2.1 (8 * 1))]) X hp (C_X6_takeNumber  h) tw_ml_X6_51 vf_X6_takeNumber ⟨rfl, rfl, Nat.le_of_ble_eq_true rfl, Nat.le_of_ble_eq_true rfl⟩ (pr_rcv X hp (k := 301) (by decide) (ob_301 _) (q := (RX6, TX6, 6)) rfl) rfl hl.1 rfl (Nat.le_of_ble_eq_true rfl) dX6_readLaw_14) hp (fun r4 I3 H locs h hp => ?_)
  refine g_X6_55 X hp (by decide) dX6_readLaw_17 (fun H locs hp => ?_)
  obtain ⟨I5, e6⟩ : ∃ y, y = su I3 (8 * 1) 0 r4 := ⟨_, rfl⟩
  have hp : PP E s H locs I5 := by rw [e6]; exact hp
  have h := h I5 e6
  refine lv_aload_n hx hb dX6_readLaw_20 rfl (lv_at hl 0 rfl) ?_
  refine lv_bipush (v := (nI 44)) hx hb dX6_readLaw_21 (by decide) ?_
  refine kv (kV (As := [.int (nI 44)]) (rest := []) X hp (C_X6_takeByte  h) tw_ml_X6_47 vf_X6_takeByte ⟨rfl, rfl, Nat.le_of_ble_eq_true rfl, Nat.le_of_ble_eq_true rfl⟩ (pr_rcv X hp (k := 301) (by decide) (ob_301 _) (q := (RX6, TX6, 6)) rfl) rfl hl.1 rfl (Nat.le_of_ble_eq_true rfl) dX6_readLaw_23) hp (fun I7 H locs h hp => ?_)
  refine lv_aload_n hx hb dX6_readLaw_26 rfl (lv_at hl 0 rfl) ?_
  refine f_X6_18 X hp dX6_readLaw_27 ?_
  refine lv_aload_n hx hb dX6_readLaw_30 rfl (lv_at hl 0 rfl) ?_
  refine lv_iconst (v := (nI 1)) hx hb dX6_readLaw_31 (by decide) ?_
  refine lv_bipush (v := (nI 20)) hx hb dX6_readLaw_32 (by decide) ?_
  refine ki (kV (As := [.int (nI 1), .int (nI 20)]) (rest := [.ref (E.2.1 (8 * 1))]) X hp (C_X6_takeNumber  h) tw_ml_X6_51 vf_X6_takeNumber ⟨rfl, rfl, Nat.le_of_ble_eq_true rfl, Nat.le_of_ble_eq_true rfl⟩ (pr_rcv X hp (k := 301) (by decide) (ob_301 _) (q := (RX6, TX6, 6)) rfl) rfl hl.1 rfl (Nat.le_of_ble_eq_true rfl) dX6_readLaw_34) hp (fun r10 I9 H locs h hp => ?_)
  refine g_X6_58 X hp (by decide) dX6_readLaw_37 (fun H locs hp => ?_)
  obtain ⟨I11, e12⟩ : ∃ y, y = su I9 (8 * 1) 1 r10 := ⟨_, rfl⟩
  have hp : PP E s H locs I11 := by rw [e12]; exact hp
  have h := h I11 e12
  refine lv_aload_n hx hb dX6_readLaw_40 rfl (lv_at hl 0 rfl) ?_
  refine lv_bipush (v := (nI 59)) hx hb dX6_readLaw_41 (by decide) ?_
  refine kv (kV (As := [.int (nI 59)]) (rest := []) X hp (C_X6_takeByte  h) tw_ml_X6_47 vf_X6_takeByte ⟨rfl, rfl, Nat.le_of_ble_eq_true rfl, Nat.le_of_ble_eq_true rfl⟩ (pr_rcv X hp (k := 301) (by decide) (ob_301 _) (q := (RX6, TX6, 6)) rfl) rfl hl.1 rfl (Nat.le_of_ble_eq_true rfl) dX6_readLaw_43) hp (fun I13 H locs h hp => ?_)
  exact rt_v X hp h dX6_readLaw_46
set_option maxRecDepth 100000 in
theorem C_X6_readLaw {E : EE} {l : Launch} {I : II} {Q : II → Prop} (h : wp_X6_readLaw I Q) : Met l yX6_readLaw (Cond.code yX6_readLaw cX6_readLaw 1 none :: lwT) rmX6_readLaw (va_Pc [.ref (E.2.1 301)] (PU E I)) (va_Qv Q (BU E) E.2.2.2.1) 0 0 E.2.2.2.1 :=
  ofWalk [.ref (E.2.1 301)] (by decide) tw_c_X6_readLaw (Nat.le_of_ble_eq_true rfl) (fun p e s m below meth c ls X hp hl => w_X6_readLaw_0 X _ _ _ _ h hp hl)
abbrev rmX6_readPapers : Room := { frames := 3, cells := 0, slots := 0, locals := 67 }
theorem vf_X6_readPapers : VF yX6_readPapers RX6 cX6_readPapers 4 none 0 := ⟨tw_in_X6, tw_im_X6_readPapers, tw_se_X6_readPapers, tw_c_X6_readPapers, by decide, by decide, by decide +kernel⟩
def wp_X6_readPapers_100 (Q : II → Prop) (k2 : Int32 → II → Prop) (x1 : Int32) (x3 : Int32) (v0 : Int32) (I : II) : Prop := (wp_X1_join 1 v0 x3 I (fun r2 I1 => (k2 (x1 + (nI 1)) I1)))
set_option maxHeartbeats 4000000 in
set_option maxRecDepth 100000 in
theorem w_X6_readPapers_100 {E : EE} {p : Program} {l : Launch} {e : Env} {s : State} {m : MethodId} {args : Array Value} {below : List Frame} {meth : Method} {c : Code} {Q : II → Prop} {k2 : Int32 → II → Prop} (X : CX E p s m args meth c cX6_readPapers 4 none RX6) (K2 : ∀ (x1 : Int32) (I : II) (H : Heap) (locs : List Loc) (ls : Array Slot), k2 x1 I → PP E s H locs I → lv_has ls 4 [(0, .ref (E.2.1 301)), (1, .int x1)] → W p l e rmX6_readPapers s m args below meth c H locs 0 0 (MQ below (va_Qv Q (BU E) E.2.2.2.1) args s 0 0 E.2.2.2.1) (F0 m 2 ls [])) : ∀ (x1 : Int32) (x3 : Int32) (v0 : Int32) (I : II) (H : Heap) (locs : List Loc) (ls : Array Slot), wp_X6_readPapers_100 Q k2 x1 x3 v0 I → PP E s H locs I → lv_has ls 4 [(0, .ref (E.2.1 301)), (1, .int x1), (3, .int x3)] → W p l e rmX6_readPapers s m args below meth c H locs 0 0 (MQ below (va_Qv Q (BU E) E.2.2.2.1) args s 0 0 E.2.2.2.1) (F0 m 100 ls [.int v0, .ref (E.2.1 (8 * 1))]) := by
  obtain ⟨⟨hx, hb, hml, hown, hts⟩, hr, hlk, hK, hST, hN⟩ := id X
  intro x1 x3 v0 I H locs ls h hp hl
  unfold wp_X6_readPapers_100 at h
  refine lv_iload_n hx hb dX6_readPapers_100 rfl (lv_at hl 2 rfl) ?_
  refine ki (kV (As := [.int v0, .int x3]) (rest := []) X hp (C_X1_join (by decide) h) tw_ml_X6_74 vf_X1_join ⟨rfl, rfl, Nat.le_of_ble_eq_true rfl, Nat.le_of_ble_eq_true rfl⟩ (pr_rcvb X hp (by decide)) rfl hl.1 rfl (Nat.le_of_ble_eq_true rfl) dX6_readPapers_101) hp (fun r2 I1 H locs h hp => ?_)
  refine lv_pop hx hb dX6_readPapers_104 rfl ?_
  refine lv_iinc (v := (x1 + (nI 1))) (lv' := [(1, .int (x1 + (nI 1))), (0, .ref (E.2.1 301)), (3, .int x3)]) hx hb dX6_readPapers_105 hl (k := 1) rfl rfl (by decide) rfl (fun ls hl => ?_)
  refine lv_goto (tgt := 2) hx hb dX6_readPapers_108 (by decide) ?_
  exact K2 _ _ _ _ _ h hp (lv_sub hl [1, 0] rfl)
def wp_X6_readPapers_49 (Q : II → Prop) (k2 : Int32 → II → Prop) (k55 : II → Prop) (x1 : Int32) (x2 : Int32) (I : II) : Prop := ((¬ x1 = (nI 7) → (∀ I2 : II, I2 = su I 301 3 ((I 301 3) + (nI 1)) → (wp_X6_takeNumber (nI 1) (nI 30) I2 (fun r5 I4 => (wp_X6_takeByte (nI 59) I4 (fun I6 => ((¬ x2 = (nI 100) → (wp_X6_readPapers_100 Q k2 x1 r5 (nI 0) I6)) ∧ (x2 = (nI 100) → (wp_X6_readPapers_100 Q k2 x1 r5 (nI 1) I6))))))))) ∧ (x1 = (nI 7) → (k55 I)))
set_option maxHeartbeats 4000000 in
set_option maxRecDepth 100000 in
theorem w_X6_readPapers_49 {E : EE} {p : Program} {l : Launch} {e : Env} {s : State} {m : MethodId} {args : Array Value} {below : List Frame} {meth : Method} {c : Code} {Q : II → Prop} {k2 : Int32 → II → Prop} {k55 : II → Prop} (X : CX E p s m args meth c cX6_readPapers 4 none RX6) (K2 : ∀ (x1 : Int32) (I : II) (H : Heap) (locs : List Loc) (ls : Array Slot), k2 x1 I → PP E s H locs I → lv_has ls 4 [(0, .ref (E.2.1 301)), (1, .int x1)] → W p l e rmX6_readPapers s m args below meth c H locs 0 0 (MQ below (va_Qv Q (BU E) E.2.2.2.1) args s 0 0 E.2.2.2.1) (F0 m 2 ls [])) (K55 : ∀ (I : II) (H : Heap) (locs : List Loc) (ls : Array Slot), k55 I → PP E s H locs I → lv_has ls 4 [(0, .ref (E.2.1 301))] → W p l e rmX6_readPapers s m args below meth c H locs 0 0 (MQ below (va_Qv Q (BU E) E.2.2.2.1) args s 0 0 E.2.2.2.1) (F0 m 55 ls [])) : ∀ (x1 : Int32) (x2 : Int32) (I : II) (H : Heap) (locs : List Loc) (ls : Array Slot), wp_X6_readPapers_49 Q k2 k55 x1 x2 I → PP E s H locs I → lv_has ls 4 [(0, .ref (E.2.1 301)), (1, .int x1), (2, .int x2)] → W p l e rmX6_readPapers s m args below meth c H locs 0 0 (MQ below (va_Qv Q (BU E) E.2.2.2.1) args s 0 0 E.2.2.2.1) (F0 m 49 ls []) := by
  obtain ⟨⟨hx, hb, hml, hown, hts⟩, hr, hlk, hK, hST, hN⟩ := id X
  intro x1 x2 I H locs ls h hp hl
  unfold wp_X6_readPapers_49 at h
  refine lv_iload_n hx hb dX6_readPapers_49 rfl (lv_at hl 1 rfl) ?_
  refine lv_bipush (v := (nI 7)) hx hb dX6_readPapers_50 (by decide) ?_
  refine lv_icmp_ne (tgt := 61) hx hb dX6_readPapers_52 (by decide) (fun c1 => ?_) (fun c1 => ?_)
  · have h := h.1 c1
    refine lv_aload_n hx hb dX6_readPapers_61 rfl (lv_at hl 0 rfl) ?_
    refine lv_dup hx hb dX6_readPapers_62 rfl ?_
    refine f_X6_26 X hp dX6_readPapers_63 ?_
    refine lv_iconst (v := (nI 1)) hx hb dX6_readPapers_66 (by decide) ?_
    refine lv_iadd hx hb dX6_readPapers_67 ?_
    refine g_X6_26 X hp dX6_readPapers_68 (fun H locs hp => ?_)
    obtain ⟨I2, e3⟩ : ∃ y, y = su I 301 3 ((I 301 3) + (nI 1)) := ⟨_, rfl⟩
    have hp : PP E s H locs I2 := by rw [e3]; exact hp
    have h := h I2 e3
    refine lv_aload_n hx hb dX6_readPapers_71 rfl (lv_at hl 0 rfl) ?_
    refine lv_iconst (v := (nI 1)) hx hb dX6_readPapers_72 (by decide) ?_
    refine lv_bipush (v := (nI 30)) hx hb dX6_readPapers_73 (by decide) ?_
    refine ki (kV (As := [.int (nI 1), .int (nI 30)]) (rest := []) X hp (C_X6_takeNumber  h) tw_ml_X6_51 vf_X6_takeNumber ⟨rfl, rfl, Nat.le_of_ble_eq_true rfl, Nat.le_of_ble_eq_true rfl⟩ (pr_rcv X hp (k := 301) (by decide) (ob_301 _) (q := (RX6, TX6, 6)) rfl) rfl hl.1 rfl (Nat.le_of_ble_eq_true rfl) dX6_readPapers_75) hp (fun r5 I4 H locs h hp => ?_)
    refine lv_istore_n (lv' := [(3, .int r5), (0, .ref (E.2.1 301)), (1, .int x1), (2, .int x2)]) hx hb dX6_readPapers_78 rfl hl (by decide) rfl (fun ls hl => ?_)
    refine lv_aload_n hx hb dX6_readPapers_79 rfl (lv_at hl 1 rfl) ?_
    refine lv_bipush (v := (nI 59)) hx hb dX6_readPapers_80 (by decide) ?_
    refine kv (kV (As := [.int (nI 59)]) (rest := []) X hp (C_X6_takeByte  h) tw_ml_X6_47 vf_X6_takeByte ⟨rfl, rfl, Nat.le_of_ble_eq_true rfl, Nat.le_of_ble_eq_true rfl⟩ (pr_rcv X hp (k := 301) (by decide) (ob_301 _) (q := (RX6, TX6, 6)) rfl) rfl hl.1 rfl (Nat.le_of_ble_eq_true rfl) dX6_readPapers_82) hp (fun I6 H locs h hp => ?_)
    refine lv_aload_n hx hb dX6_readPapers_85 rfl (lv_at hl 1 rfl) ?_
    refine f_X6_18 X hp dX6_readPapers_86 ?_
    refine lv_iload_n hx hb dX6_readPapers_89 rfl (lv_at hl 3 rfl) ?_
    refine lv_bipush (v := (nI 100)) hx hb dX6_readPapers_90 (by decide) ?_
    refine lv_icmp_ne (tgt := 99) hx hb dX6_readPapers_92 (by decide) (fun c8 => ?_) (fun c8 => ?_)
    · have h := h.1 c8
      refine lv_iconst (v := (nI 0)) hx hb dX6_readPapers_99 (by decide) ?_
      exact w_X6_readPapers_100 X K2 _ _ _ _ _ _ _ h hp (lv_sub hl [1, 2, 0] rfl)
    · have h := h.2 c8
      refine lv_iconst (v := (nI 1)) hx hb dX6_readPapers_95 (by decide) ?_
      refine lv_goto (tgt := 100) hx hb dX6_readPapers_96 (by decide) ?_
      exact w_X6_readPapers_100 X K2 _ _ _ _ _ _ _ h hp (lv_sub hl [1, 2, 0] rfl)
  · have h := h.2 c1
    exact K55 _ _ _ _ h hp (lv_sub hl [0] rfl)
def wp_X6_readPapers_2 (Q : II → Prop) (k43 : II → Prop) (k55 : II → Prop) (k111 : II → Prop) : Nat → Int32 → II → Prop
  | 0, _, _ => False
  | n + 1, x1, I => (((nI 7) < x1 → (k111 I)) ∧ (¬ (nI 7) < x1 → ((¬ (I 301 4) = 0 → (k111 I)) ∧ ((I 301 4) = 0 → (((I 301 2) ≤ (I 301 3) → (k111 I)) ∧ (¬ (I 301 2) ≤ (I 301 3) → (wp_X6_next I (fun r5 I4 => ((r5 = (nI 100) → (wp_X6_readPapers_49 Q (fun x1 I => wp_X6_readPapers_2 Q k43 k55 k111 n x1 I) k55 x1 r5 I4)) ∧ (¬ r5 = (nI 100) → ((r5 = (nI 112) → (wp_X6_readPapers_49 Q (fun x1 I => wp_X6_readPapers_2 Q k43 k55 k111 n x1 I) k55 x1 r5 I4)) ∧ (¬ r5 = (nI 112) → (k43 I4)))))))))))))
set_option maxHeartbeats 4000000 in
set_option maxRecDepth 100000 in
theorem w_X6_readPapers_2 {E : EE} {p : Program} {l : Launch} {e : Env} {s : State} {m : MethodId} {args : Array Value} {below : List Frame} {meth : Method} {c : Code} {Q : II → Prop} {k43 : II → Prop} {k55 : II → Prop} {k111 : II → Prop} (X : CX E p s m args meth c cX6_readPapers 4 none RX6) (K43 : ∀ (I : II) (H : Heap) (locs : List Loc) (ls : Array Slot), k43 I → PP E s H locs I → lv_has ls 4 [(0, .ref (E.2.1 301))] → W p l e rmX6_readPapers s m args below meth c H locs 0 0 (MQ below (va_Qv Q (BU E) E.2.2.2.1) args s 0 0 E.2.2.2.1) (F0 m 43 ls [])) (K55 : ∀ (I : II) (H : Heap) (locs : List Loc) (ls : Array Slot), k55 I → PP E s H locs I → lv_has ls 4 [(0, .ref (E.2.1 301))] → W p l e rmX6_readPapers s m args below meth c H locs 0 0 (MQ below (va_Qv Q (BU E) E.2.2.2.1) args s 0 0 E.2.2.2.1) (F0 m 55 ls [])) (K111 : ∀ (I : II) (H : Heap) (locs : List Loc) (ls : Array Slot), k111 I → PP E s H locs I → lv_has ls 4 [] → W p l e rmX6_readPapers s m args below meth c H locs 0 0 (MQ below (va_Qv Q (BU E) E.2.2.2.1) args s 0 0 E.2.2.2.1) (F0 m 111 ls [])) : ∀ (n : Nat) (x1 : Int32) (I : II) (H : Heap) (locs : List Loc) (ls : Array Slot), wp_X6_readPapers_2 Q k43 k55 k111 n x1 I → PP E s H locs I → lv_has ls 4 [(0, .ref (E.2.1 301)), (1, .int x1)] → W p l e rmX6_readPapers s m args below meth c H locs 0 0 (MQ below (va_Qv Q (BU E) E.2.2.2.1) args s 0 0 E.2.2.2.1) (F0 m 2 ls []) := by
  obtain ⟨⟨hx, hb, hml, hown, hts⟩, hr, hlk, hK, hST, hN⟩ := id X
  intro n
  induction n with
  | zero =>
    intro x1 I H locs ls h hp hl
    exact False.elim h
  | succ n ih =>
    intro x1 I H locs ls h hp hl
    rw [wp_X6_readPapers_2.eq_2] at h
    refine lv_iload_n hx hb dX6_readPapers_2 rfl (lv_at hl 1 rfl) ?_
    refine lv_bipush (v := (nI 7)) hx hb dX6_readPapers_3 (by decide) ?_
    refine lv_icmp_gt (tgt := 111) hx hb dX6_readPapers_5 (by decide) (fun c1 => ?_) (fun c1 => ?_)
    · have h := h.1 c1
      exact K111 _ _ _ _ h hp (lv_sub hl [] rfl)
    · have h := h.2 c1
      refine lv_aload_n hx hb dX6_readPapers_8 rfl (lv_at hl 0 rfl) ?_
      refine f_X6_29 X hp dX6_readPapers_9 ?_
      refine lv_if_ne (tgt := 111) hx hb dX6_readPapers_12 (by decide) (fun c2 => ?_) (fun c2 => ?_)
      · have h := h.1 c2
        exact K111 _ _ _ _ h hp (lv_sub hl [] rfl)
      · have h := h.2 c2
        refine lv_aload_n hx hb dX6_readPapers_15 rfl (lv_at hl 0 rfl) ?_
        refine f_X6_26 X hp dX6_readPapers_16 ?_
        refine lv_aload_n hx hb dX6_readPapers_19 rfl (lv_at hl 0 rfl) ?_
        refine f_X6_22 X hp dX6_readPapers_20 ?_
        refine lv_icmp_ge (tgt := 111) hx hb dX6_readPapers_23 (by decide) (fun c3 => ?_) (fun c3 => ?_)
        · have h := h.1 c3
          exact K111 _ _ _ _ h hp (lv_sub hl [] rfl)
        · have h := h.2 c3
          refine lv_aload_n hx hb dX6_readPapers_26 rfl (lv_at hl 0 rfl) ?_
          refine ki (kV (As := []) (rest := []) X hp (C_X6_next  h) tw_ml_X6_61 vf_X6_next ⟨rfl, rfl, Nat.le_of_ble_eq_true rfl, Nat.le_of_ble_eq_true rfl⟩ (pr_rcv X hp (k := 301) (by decide) (ob_301 _) (q := (RX6, TX6, 6)) rfl) rfl hl.1 rfl (Nat.le_of_ble_eq_true rfl) dX6_readPapers_27) hp (fun r5 I4 H locs h hp => ?_)
          refine lv_istore_n (lv' := [(2, .int r5), (0, .ref (E.2.1 301)), (1, .int x1)]) hx hb dX6_readPapers_30 rfl hl (by decide) rfl (fun ls hl => ?_)
          refine lv_iload_n hx hb dX6_readPapers_31 rfl (lv_at hl 0 rfl) ?_
          refine lv_bipush (v := (nI 100)) hx hb dX6_readPapers_32 (by decide) ?_
          refine lv_icmp_eq (tgt := 49) hx hb dX6_readPapers_34 (by decide) (fun c6 => ?_) (fun c6 => ?_)
          · have h := h.1 c6
            exact w_X6_readPapers_49 X ih K55 _ _ _ _ _ _ h hp (lv_sub hl [1, 2, 0] rfl)
          · have h := h.2 c6
            refine lv_iload_n hx hb dX6_readPapers_37 rfl (lv_at hl 0 rfl) ?_
            refine lv_bipush (v := (nI 112)) hx hb dX6_readPapers_38 (by decide) ?_
            refine lv_icmp_eq (tgt := 49) hx hb dX6_readPapers_40 (by decide) (fun c7 => ?_) (fun c7 => ?_)
            · have h := h.1 c7
              exact w_X6_readPapers_49 X ih K55 _ _ _ _ _ _ h hp (lv_sub hl [1, 2, 0] rfl)
            · have h := h.2 c7
              exact K43 _ _ _ _ h hp (lv_sub hl [1] rfl)
def wp_X6_readPapers (I : II) (Q : II → Prop) : Prop := (∃ n155, wp_X6_readPapers_2 Q (fun I => (∀ I51 : II, I51 = su I 301 4 (nI 1) → (Q I51))) (fun I => (∀ I103 : II, I103 = su I 301 4 (nI 3) → (Q I103))) (fun I => (Q I)) n155 (nI 0) I)
set_option maxHeartbeats 4000000 in
set_option maxRecDepth 100000 in
theorem w_X6_readPapers_0 {E : EE} {p : Program} {l : Launch} {e : Env} {s : State} {m : MethodId} {args : Array Value} {below : List Frame} {meth : Method} {c : Code} {Q : II → Prop} (X : CX E p s m args meth c cX6_readPapers 4 none RX6) : ∀ (I : II) (H : Heap) (locs : List Loc) (ls : Array Slot), wp_X6_readPapers I Q → PP E s H locs I → lv_has ls 4 [(0, .ref (E.2.1 301))] → W p l e rmX6_readPapers s m args below meth c H locs 0 0 (MQ below (va_Qv Q (BU E) E.2.2.2.1) args s 0 0 E.2.2.2.1) (F0 m 0 ls []) := by
  obtain ⟨⟨hx, hb, hml, hown, hts⟩, hr, hlk, hK, hST, hN⟩ := id X
  intro I H locs ls h hp hl
  unfold wp_X6_readPapers at h
  refine lv_iconst (v := (nI 0)) hx hb dX6_readPapers_0 (by decide) ?_
  refine lv_istore_n (lv' := [(1, .int (nI 0)), (0, .ref (E.2.1 301))]) hx hb dX6_readPapers_1 rfl hl (by decide) rfl (fun ls hl => ?_)
  obtain ⟨n155, h⟩ := h
  refine w_X6_readPapers_2 X ?_ ?_ ?_ n155 _ _ _ _ _ h hp (lv_sub hl [1, 0] rfl)
  · intro I H locs ls h hp hl
    refine lv_aload_n hx hb dX6_readPapers_43 rfl (lv_at hl 0 rfl) ?_
    refine lv_iconst (v := (nI 1)) hx hb dX6_readPapers_44 (by decide) ?_
    refine g_X6_29 X hp dX6_readPapers_45 (fun H locs hp => ?_)
    obtain ⟨I51, e52⟩ : ∃ y, y = su I 301 4 (nI 1) := ⟨_, rfl⟩
    have hp : PP E s H locs I51 := by rw [e52]; exact hp
    have h := h I51 e52
    exact rt_v X hp h dX6_readPapers_48
  · intro I H locs ls h hp hl
    refine lv_aload_n hx hb dX6_readPapers_55 rfl (lv_at hl 0 rfl) ?_
    refine lv_iconst (v := (nI 3)) hx hb dX6_readPapers_56 (by decide) ?_
    refine g_X6_29 X hp dX6_readPapers_57 (fun H locs hp => ?_)
    obtain ⟨I103, e104⟩ : ∃ y, y = su I 301 4 (nI 3) := ⟨_, rfl⟩
    have hp : PP E s H locs I103 := by rw [e104]; exact hp
    have h := h I103 e104
    exact rt_v X hp h dX6_readPapers_60
  · intro I H locs ls h hp hl
    exact rt_v X hp h dX6_readPapers_111
set_option maxRecDepth 100000 in
theorem C_X6_readPapers {E : EE} {l : Launch} {I : II} {Q : II → Prop} (h : wp_X6_readPapers I Q) : Met l yX6_readPapers (Cond.code yX6_readPapers cX6_readPapers 4 none :: lwT) rmX6_readPapers (va_Pc [.ref (E.2.1 301)] (PU E I)) (va_Qv Q (BU E) E.2.2.2.1) 0 0 E.2.2.2.1 :=
  ofWalk [.ref (E.2.1 301)] (by decide) tw_c_X6_readPapers (Nat.le_of_ble_eq_true rfl) (fun p e s m below meth c ls X hp hl => w_X6_readPapers_0 X _ _ _ _ h hp hl)
abbrev rmX6_kindOfSort : Room := { frames := 0, cells := 0, slots := 0, locals := 0 }
theorem sf_X6_kindOfSort : SF yX6_kindOfSort cX6_kindOfSort 1 (some .int) 1 := ⟨tw_in_X6, tw_st_X6_kindOfSort, tw_c_X6_kindOfSort, by decide, by decide, by decide +kernel⟩
def wp_X6_kindOfSort (x0 : Int32) (I : II) (Q : Int32 → II → Prop) : Prop := ((x0 = (nI 99) → (Q (nI 1) I)) ∧ (x0 = (nI 107) → (Q (nI 2) I)) ∧ (x0 = (nI 110) → (Q (nI 5) I)) ∧ (x0 = (nI 111) → (Q (nI 3) I)) ∧ (x0 = (nI 121) → (Q (nI 4) I)) ∧ (¬ x0 = (nI 99) → ¬ x0 = (nI 107) → ¬ x0 = (nI 110) → ¬ x0 = (nI 111) → ¬ x0 = (nI 121) → (Q (-nI 1000000) I)))
set_option maxHeartbeats 4000000 in
set_option maxRecDepth 100000 in
theorem w_X6_kindOfSort_0 {E : EE} {p : Program} {l : Launch} {e : Env} {s : State} {m : MethodId} {args : Array Value} {below : List Frame} {meth : Method} {c : Code} {Q : Int32 → II → Prop} (X : CX E p s m args meth c cX6_kindOfSort 1 (some .int) RX6) : ∀ (x0 : Int32) (I : II) (H : Heap) (locs : List Loc) (ls : Array Slot), wp_X6_kindOfSort x0 I Q → PP E s H locs I → lv_has ls 1 [(0, .int x0)] → W p l e rmX6_kindOfSort s m args below meth c H locs 0 0 (MQ below (va_Qi Q (BU E) E.2.2.2.1) args s 0 0 E.2.2.2.1) (F0 m 0 ls []) := by
  obtain ⟨⟨hx, hb, hml, hown, hts⟩, hr, hlk, hK, hST, hN⟩ := id X
  intro x0 I H locs ls h hp hl
  unfold wp_X6_kindOfSort at h
  refine lv_iload_n hx hb dX6_kindOfSort_0 rfl (lv_at hl 0 rfl) ?_
  by_cases c1 : x0 = (nI 99)
  · have h := h.1 c1
    refine lv_lookup (off := 51) (tgt := 52) hx hb dX6_kindOfSort_1 (by decide) (by rw [c1]; rfl) (by decide) ?_
    refine lv_iconst (v := (nI 1)) hx hb dX6_kindOfSort_52 (by decide) ?_
    exact rt_i X hp h dX6_kindOfSort_53
  have h := h.2
  by_cases c2 : x0 = (nI 107)
  · have h := h.1 c2
    refine lv_lookup (off := 53) (tgt := 54) hx hb dX6_kindOfSort_1 (by decide) (by rw [c2]; rfl) (by decide) ?_
    refine lv_iconst (v := (nI 2)) hx hb dX6_kindOfSort_54 (by decide) ?_
    exact rt_i X hp h dX6_kindOfSort_55
  have h := h.2
  by_cases c3 : x0 = (nI 110)
  · have h := h.1 c3
    refine lv_lookup (off := 59) (tgt := 60) hx hb dX6_kindOfSort_1 (by decide) (by rw [c3]; rfl) (by decide) ?_
    refine lv_iconst (v := (nI 5)) hx hb dX6_kindOfSort_60 (by decide) ?_
    exact rt_i X hp h dX6_kindOfSort_61
  have h := h.2
  by_cases c4 : x0 = (nI 111)
  · have h := h.1 c4
    refine lv_lookup (off := 55) (tgt := 56) hx hb dX6_kindOfSort_1 (by decide) (by rw [c4]; rfl) (by decide) ?_
    refine lv_iconst (v := (nI 3)) hx hb dX6_kindOfSort_56 (by decide) ?_
    exact rt_i X hp h dX6_kindOfSort_57
  have h := h.2
  by_cases c5 : x0 = (nI 121)
  · have h := h.1 c5
    refine lv_lookup (off := 57) (tgt := 58) hx hb dX6_kindOfSort_1 (by decide) (by rw [c5]; rfl) (by decide) ?_
    refine lv_iconst (v := (nI 4)) hx hb dX6_kindOfSort_58 (by decide) ?_
    exact rt_i X hp h dX6_kindOfSort_59
  have h := h.2
  have h := h c1 c2 c3 c4 c5
  refine lv_lookup (off := 61) (tgt := 62) hx hb dX6_kindOfSort_1 (by decide) (by show Op.lookupswitch.offset [(99, 51), (107, 53), (110, 59), (111, 55), (121, 57)] _ _ = _; rw [lv_osw c1 (by decide), lv_osw c2 (by decide), lv_osw c3 (by decide), lv_osw c4 (by decide), lv_osw c5 (by decide)]; rfl) (by decide) ?_
  refine lv_ldc (v := (-nI 1000000)) hx hb hown (hts _ tw_k_X6_69) dX6_kindOfSort_62 ?_
  exact rt_i X hp h dX6_kindOfSort_64
set_option maxRecDepth 100000 in
theorem C_X6_kindOfSort {E : EE} {l : Launch} {x0 : Int32} {I : II} {Q : Int32 → II → Prop} (h : wp_X6_kindOfSort x0 I Q) : Met l yX6_kindOfSort (Cond.code yX6_kindOfSort cX6_kindOfSort 1 (some .int) :: lwT) rmX6_kindOfSort (va_Pc [.int x0] (PU E I)) (va_Qi Q (BU E) E.2.2.2.1) 0 0 E.2.2.2.1 :=
  ofWalk [.int x0] (by decide) tw_c_X6_kindOfSort (Nat.le_of_ble_eq_true rfl) (fun p e s m below meth c ls X hp hl => w_X6_kindOfSort_0 X _ _ _ _ _ h hp hl)
abbrev rmX6_readTellers : Room := { frames := 3, cells := 0, slots := 0, locals := 67 }
theorem vf_X6_readTellers : VF yX6_readTellers RX6 cX6_readTellers 5 none 0 := ⟨tw_in_X6, tw_im_X6_readTellers, tw_se_X6_readTellers, tw_c_X6_readTellers, by decide, by decide, by decide +kernel⟩
def wp_X6_readTellers_2 (Q : II → Prop) (k28 : Int32 → II → Prop) (k47 : II → Prop) (k109 : II → Prop) : Nat → Int32 → II → Prop
  | 0, _, _ => False
  | n + 1, x1, I => (((nI 4) < x1 → (k109 I)) ∧ (¬ (nI 4) < x1 → ((¬ (I 301 4) = 0 → (k109 I)) ∧ ((I 301 4) = 0 → (wp_X6_next I (fun r4 I3 => (wp_X6_kindOfSort r4 I3 (fun r6 I5 => ((¬ r6 = (-nI 1000000) → ((¬ x1 = (nI 4) → (∀ I9 : II, I9 = su I5 301 3 ((I5 301 3) + (nI 1)) → (wp_X6_takeNumber (nI 0) (nI 60) I9 (fun r12 I11 => (wp_X6_takeByte (nI 44) I11 (fun I13 => (wp_X6_takeNumber (nI 1) (nI 9) I13 (fun r16 I15 => (wp_X6_takeByte (nI 59) I15 (fun I17 => (wp_X1_addTeller 1 r6 r12 r16 I17 (fun I19 => (wp_X6_readTellers_2 Q k28 k47 k109 n (x1 + (nI 1)) I19))))))))))))) ∧ (x1 = (nI 4) → (k47 I5)))) ∧ (r6 = (-nI 1000000) → (k28 x1 I5)))))))))))
set_option maxHeartbeats 4000000 in
set_option maxRecDepth 100000 in
theorem w_X6_readTellers_2 {E : EE} {p : Program} {l : Launch} {e : Env} {s : State} {m : MethodId} {args : Array Value} {below : List Frame} {meth : Method} {c : Code} {Q : II → Prop} {k28 : Int32 → II → Prop} {k47 : II → Prop} {k109 : II → Prop} (X : CX E p s m args meth c cX6_readTellers 5 none RX6) (K28 : ∀ (x1 : Int32) (I : II) (H : Heap) (locs : List Loc) (ls : Array Slot), k28 x1 I → PP E s H locs I → lv_has ls 5 [(0, .ref (E.2.1 301)), (1, .int x1)] → W p l e rmX6_readTellers s m args below meth c H locs 0 0 (MQ below (va_Qv Q (BU E) E.2.2.2.1) args s 0 0 E.2.2.2.1) (F0 m 28 ls [])) (K47 : ∀ (I : II) (H : Heap) (locs : List Loc) (ls : Array Slot), k47 I → PP E s H locs I → lv_has ls 5 [(0, .ref (E.2.1 301))] → W p l e rmX6_readTellers s m args below meth c H locs 0 0 (MQ below (va_Qv Q (BU E) E.2.2.2.1) args s 0 0 E.2.2.2.1) (F0 m 47 ls [])) (K109 : ∀ (I : II) (H : Heap) (locs : List Loc) (ls : Array Slot), k109 I → PP E s H locs I → lv_has ls 5 [] → W p l e rmX6_readTellers s m args below meth c H locs 0 0 (MQ below (va_Qv Q (BU E) E.2.2.2.1) args s 0 0 E.2.2.2.1) (F0 m 109 ls [])) : ∀ (n : Nat) (x1 : Int32) (I : II) (H : Heap) (locs : List Loc) (ls : Array Slot), wp_X6_readTellers_2 Q k28 k47 k109 n x1 I → PP E s H locs I → lv_has ls 5 [(0, .ref (E.2.1 301)), (1, .int x1)] → W p l e rmX6_readTellers s m args below meth c H locs 0 0 (MQ below (va_Qv Q (BU E) E.2.2.2.1) args s 0 0 E.2.2.2.1) (F0 m 2 ls []) := by
  obtain ⟨⟨hx, hb, hml, hown, hts⟩, hr, hlk, hK, hST, hN⟩ := id X
  intro n
  induction n with
  | zero =>
    intro x1 I H locs ls h hp hl
    exact False.elim h
  | succ n ih =>
    intro x1 I H locs ls h hp hl
    rw [wp_X6_readTellers_2.eq_2] at h
    refine lv_iload_n hx hb dX6_readTellers_2 rfl (lv_at hl 1 rfl) ?_
    refine lv_iconst (v := (nI 4)) hx hb dX6_readTellers_3 (by decide) ?_
    refine lv_icmp_gt (tgt := 109) hx hb dX6_readTellers_4 (by decide) (fun c1 => ?_) (fun c1 => ?_)
    · have h := h.1 c1
      exact K109 _ _ _ _ h hp (lv_sub hl [] rfl)
    · have h := h.2 c1
      refine lv_aload_n hx hb dX6_readTellers_7 rfl (lv_at hl 0 rfl) ?_
      refine f_X6_29 X hp dX6_readTellers_8 ?_
      refine lv_if_ne (tgt := 109) hx hb dX6_readTellers_11 (by decide) (fun c2 => ?_) (fun c2 => ?_)
      · have h := h.1 c2
        exact K109 _ _ _ _ h hp (lv_sub hl [] rfl)
      · have h := h.2 c2
        refine lv_aload_n hx hb dX6_readTellers_14 rfl (lv_at hl 0 rfl) ?_
        refine ki (kV (As := []) (rest := []) X hp (C_X6_next  h) tw_ml_X6_61 vf_X6_next ⟨rfl, rfl, Nat.le_of_ble_eq_true rfl, Nat.le_of_ble_eq_true rfl⟩ (pr_rcv X hp (k := 301) (by decide) (ob_301 _) (q := (RX6, TX6, 6)) rfl) rfl hl.1 rfl (Nat.le_of_ble_eq_true rfl) dX6_readTellers_15) hp (fun r4 I3 H locs h hp => ?_)
        refine ki (kS (As := [.int r4]) (rest := []) X hp (C_X6_kindOfSort  h) tw_ml_X6_65 sf_X6_kindOfSort ⟨rfl, rfl, Nat.le_of_ble_eq_true rfl, Nat.le_of_ble_eq_true rfl⟩ rfl hl.1 rfl (Nat.le_of_ble_eq_true rfl) dX6_readTellers_18) hp (fun r6 I5 H locs h hp => ?_)
        refine lv_istore_n (lv' := [(2, .int r6), (0, .ref (E.2.1 301)), (1, .int x1)]) hx hb dX6_readTellers_21 rfl hl (by decide) rfl (fun ls hl => ?_)
        refine lv_iload_n hx hb dX6_readTellers_22 rfl (lv_at hl 0 rfl) ?_
        refine lv_ldc (v := (-nI 1000000)) hx hb hown (hts _ tw_k_X6_69) dX6_readTellers_23 ?_
        refine lv_icmp_ne (tgt := 42) hx hb dX6_readTellers_25 (by decide) (fun c7 => ?_) (fun c7 => ?_)
        · have h := h.1 c7
          refine lv_iload_n hx hb dX6_readTellers_42 rfl (lv_at hl 2 rfl) ?_
          refine lv_iconst (v := (nI 4)) hx hb dX6_readTellers_43 (by decide) ?_
          refine lv_icmp_ne (tgt := 53) hx hb dX6_readTellers_44 (by decide) (fun c8 => ?_) (fun c8 => ?_)
          · have h := h.1 c8
            refine lv_aload_n hx hb dX6_readTellers_53 rfl (lv_at hl 1 rfl) ?_
            refine lv_dup hx hb dX6_readTellers_54 rfl ?_
            refine f_X6_26 X hp dX6_readTellers_55 ?_
            refine lv_iconst (v := (nI 1)) hx hb dX6_readTellers_58 (by decide) ?_
            refine lv_iadd hx hb dX6_readTellers_59 ?_
            refine g_X6_26 X hp dX6_readTellers_60 (fun H locs hp => ?_)
            obtain ⟨I9, e10⟩ : ∃ y, y = su I5 301 3 ((I5 301 3) + (nI 1)) := ⟨_, rfl⟩
            have hp : PP E s H locs I9 := by rw [e10]; exact hp
            have h := h I9 e10
            refine lv_aload_n hx hb dX6_readTellers_63 rfl (lv_at hl 1 rfl) ?_
            refine lv_iconst (v := (nI 0)) hx hb dX6_readTellers_64 (by decide) ?_
            refine lv_bipush (v := (nI 60)) hx hb dX6_readTellers_65 (by decide) ?_
            refine ki (kV (As := [.int (nI 0), .int (nI 60)]) (rest := []) X hp (C_X6_takeNumber  h) tw_ml_X6_51 vf_X6_takeNumber ⟨rfl, rfl, Nat.le_of_ble_eq_true rfl, Nat.le_of_ble_eq_true rfl⟩ (pr_rcv X hp (k := 301) (by decide) (ob_301 _) (q := (RX6, TX6, 6)) rfl) rfl hl.1 rfl (Nat.le_of_ble_eq_true rfl) dX6_readTellers_67) hp (fun r12 I11 H locs h hp => ?_)
            refine lv_istore_n (lv' := [(3, .int r12), (2, .int r6), (0, .ref (E.2.1 301)), (1, .int x1)]) hx hb dX6_readTellers_70 rfl hl (by decide) rfl (fun ls hl => ?_)
            refine lv_aload_n hx hb dX6_readTellers_71 rfl (lv_at hl 2 rfl) ?_
            refine lv_bipush (v := (nI 44)) hx hb dX6_readTellers_72 (by decide) ?_
            refine kv (kV (As := [.int (nI 44)]) (rest := []) X hp (C_X6_takeByte  h) tw_ml_X6_47 vf_X6_takeByte ⟨rfl, rfl, Nat.le_of_ble_eq_true rfl, Nat.le_of_ble_eq_true rfl⟩ (pr_rcv X hp (k := 301) (by decide) (ob_301 _) (q := (RX6, TX6, 6)) rfl) rfl hl.1 rfl (Nat.le_of_ble_eq_true rfl) dX6_readTellers_74) hp (fun I13 H locs h hp => ?_)
            refine lv_aload_n hx hb dX6_readTellers_77 rfl (lv_at hl 2 rfl) ?_
            refine lv_iconst (v := (nI 1)) hx hb dX6_readTellers_78 (by decide) ?_
            refine lv_bipush (v := (nI 9)) hx hb dX6_readTellers_79 (by decide) ?_
            refine ki (kV (As := [.int (nI 1), .int (nI 9)]) (rest := []) X hp (C_X6_takeNumber  h) tw_ml_X6_51 vf_X6_takeNumber ⟨rfl, rfl, Nat.le_of_ble_eq_true rfl, Nat.le_of_ble_eq_true rfl⟩ (pr_rcv X hp (k := 301) (by decide) (ob_301 _) (q := (RX6, TX6, 6)) rfl) rfl hl.1 rfl (Nat.le_of_ble_eq_true rfl) dX6_readTellers_81) hp (fun r16 I15 H locs h hp => ?_)
            refine lv_istore (lv' := [(4, .int r16), (3, .int r12), (2, .int r6), (0, .ref (E.2.1 301)), (1, .int x1)]) hx hb dX6_readTellers_84 hl (by decide) rfl (fun ls hl => ?_)
            refine lv_aload_n hx hb dX6_readTellers_86 rfl (lv_at hl 3 rfl) ?_
            refine lv_bipush (v := (nI 59)) hx hb dX6_readTellers_87 (by decide) ?_
            refine kv (kV (As := [.int (nI 59)]) (rest := []) X hp (C_X6_takeByte  h) tw_ml_X6_47 vf_X6_takeByte ⟨rfl, rfl, Nat.le_of_ble_eq_true rfl, Nat.le_of_ble_eq_true rfl⟩ (pr_rcv X hp (k := 301) (by decide) (ob_301 _) (q := (RX6, TX6, 6)) rfl) rfl hl.1 rfl (Nat.le_of_ble_eq_true rfl) dX6_readTellers_89) hp (fun I17 H locs h hp => ?_)
            refine lv_aload_n hx hb dX6_readTellers_92 rfl (lv_at hl 3 rfl) ?_
            refine f_X6_18 X hp dX6_readTellers_93 ?_
            refine lv_iload_n hx hb dX6_readTellers_96 rfl (lv_at hl 2 rfl) ?_
            refine lv_iload_n hx hb dX6_readTellers_97 rfl (lv_at hl 1 rfl) ?_
            refine lv_iload hx hb dX6_readTellers_98 (lv_at hl 0 rfl) ?_
            refine kv (kV (As := [.int r6, .int r12, .int r16]) (rest := []) X hp (C_X1_addTeller (by decide) h) tw_ml_X6_70 vf_X1_addTeller ⟨rfl, rfl, Nat.le_of_ble_eq_true rfl, Nat.le_of_ble_eq_true rfl⟩ (pr_rcvb X hp (by decide)) rfl hl.1 rfl (Nat.le_of_ble_eq_true rfl) dX6_readTellers_100) hp (fun I19 H locs h hp => ?_)
            refine lv_iinc (v := (x1 + (nI 1))) (lv' := [(1, .int (x1 + (nI 1))), (4, .int r16), (3, .int r12), (2, .int r6), (0, .ref (E.2.1 301))]) hx hb dX6_readTellers_103 hl (k := 4) rfl rfl (by decide) rfl (fun ls hl => ?_)
            refine lv_goto (tgt := 2) hx hb dX6_readTellers_106 (by decide) ?_
            exact ih _ _ _ _ _ h hp (lv_sub hl [4, 0] rfl)
          · have h := h.2 c8
            exact K47 _ _ _ _ h hp (lv_sub hl [1] rfl)
        · have h := h.2 c7
          exact K28 _ _ _ _ _ h hp (lv_sub hl [1, 2] rfl)
def wp_X6_readTellers (I : II) (Q : II → Prop) : Prop := (∃ n158, wp_X6_readTellers_2 Q (fun x1 I => ((¬ x1 = 0 → (∀ I52 : II, I52 = su I 301 4 (nI 0) → (Q I52))) ∧ (x1 = 0 → (∀ I54 : II, I54 = su I 301 4 (nI 1) → (Q I54))))) (fun I => (∀ I106 : II, I106 = su I 301 4 (nI 3) → (Q I106))) (fun I => (Q I)) n158 (nI 0) I)
set_option maxHeartbeats 4000000 in
set_option maxRecDepth 100000 in
theorem w_X6_readTellers_0 {E : EE} {p : Program} {l : Launch} {e : Env} {s : State} {m : MethodId} {args : Array Value} {below : List Frame} {meth : Method} {c : Code} {Q : II → Prop} (X : CX E p s m args meth c cX6_readTellers 5 none RX6) : ∀ (I : II) (H : Heap) (locs : List Loc) (ls : Array Slot), wp_X6_readTellers I Q → PP E s H locs I → lv_has ls 5 [(0, .ref (E.2.1 301))] → W p l e rmX6_readTellers s m args below meth c H locs 0 0 (MQ below (va_Qv Q (BU E) E.2.2.2.1) args s 0 0 E.2.2.2.1) (F0 m 0 ls []) := by
  obtain ⟨⟨hx, hb, hml, hown, hts⟩, hr, hlk, hK, hST, hN⟩ := id X
  intro I H locs ls h hp hl
  unfold wp_X6_readTellers at h
  refine lv_iconst (v := (nI 0)) hx hb dX6_readTellers_0 (by decide) ?_
  refine lv_istore_n (lv' := [(1, .int (nI 0)), (0, .ref (E.2.1 301))]) hx hb dX6_readTellers_1 rfl hl (by decide) rfl (fun ls hl => ?_)
  obtain ⟨n158, h⟩ := h
  refine w_X6_readTellers_2 X ?_ ?_ ?_ n158 _ _ _ _ _ h hp (lv_sub hl [1, 0] rfl)
  · intro x1 I H locs ls h hp hl
    refine lv_aload_n hx hb dX6_readTellers_28 rfl (lv_at hl 0 rfl) ?_
    refine lv_iload_n hx hb dX6_readTellers_29 rfl (lv_at hl 1 rfl) ?_
    refine lv_if_ne (tgt := 37) hx hb dX6_readTellers_30 (by decide) (fun c51 => ?_) (fun c51 => ?_)
    · have h := h.1 c51
      refine lv_iconst (v := (nI 0)) hx hb dX6_readTellers_37 (by decide) ?_
      refine g_X6_29 X hp dX6_readTellers_38 (fun H locs hp => ?_)
      obtain ⟨I52, e53⟩ : ∃ y, y = su I 301 4 (nI 0) := ⟨_, rfl⟩
      have hp : PP E s H locs I52 := by rw [e53]; exact hp
      have h := h I52 e53
      exact rt_v X hp h dX6_readTellers_41
    · have h := h.2 c51
      refine lv_iconst (v := (nI 1)) hx hb dX6_readTellers_33 (by decide) ?_
      refine lv_goto (tgt := 38) hx hb dX6_readTellers_34 (by decide) ?_
      refine g_X6_29 X hp dX6_readTellers_38 (fun H locs hp => ?_)
      obtain ⟨I54, e55⟩ : ∃ y, y = su I 301 4 (nI 1) := ⟨_, rfl⟩
      have hp : PP E s H locs I54 := by rw [e55]; exact hp
      have h := h I54 e55
      exact rt_v X hp h dX6_readTellers_41
  · intro I H locs ls h hp hl
    refine lv_aload_n hx hb dX6_readTellers_47 rfl (lv_at hl 0 rfl) ?_
    refine lv_iconst (v := (nI 3)) hx hb dX6_readTellers_48 (by decide) ?_
    refine g_X6_29 X hp dX6_readTellers_49 (fun H locs hp => ?_)
    obtain ⟨I106, e107⟩ : ∃ y, y = su I 301 4 (nI 3) := ⟨_, rfl⟩
    have hp : PP E s H locs I106 := by rw [e107]; exact hp
    have h := h I106 e107
    exact rt_v X hp h dX6_readTellers_52
  · intro I H locs ls h hp hl
    exact rt_v X hp h dX6_readTellers_109
set_option maxRecDepth 100000 in
theorem C_X6_readTellers {E : EE} {l : Launch} {I : II} {Q : II → Prop} (h : wp_X6_readTellers I Q) : Met l yX6_readTellers (Cond.code yX6_readTellers cX6_readTellers 5 none :: lwT) rmX6_readTellers (va_Pc [.ref (E.2.1 301)] (PU E I)) (va_Qv Q (BU E) E.2.2.2.1) 0 0 E.2.2.2.1 :=
  ofWalk [.ref (E.2.1 301)] (by decide) tw_c_X6_readTellers (Nat.le_of_ble_eq_true rfl) (fun p e s m below meth c ls X hp hl => w_X6_readTellers_0 X _ _ _ _ h hp hl)
abbrev rmX6_readAll : Room := { frames := 4, cells := 0, slots := 0, locals := 91 }
theorem vf_X6_readAll : VF yX6_readAll RX6 cX6_readAll 1 (some .boolean) 0 := ⟨tw_in_X6, tw_im_X6_readAll, tw_se_X6_readAll, tw_c_X6_readAll, by decide, by decide, by decide +kernel⟩
def wp_X6_readAll_49 (Q : Int32 → II → Prop) (I : II) : Prop := ((¬ (I 301 4) = 0 → (Q (nI 0) I)) ∧ ((I 301 4) = 0 → (Q (nI 1) I)))
set_option maxHeartbeats 4000000 in
set_option maxRecDepth 100000 in
theorem w_X6_readAll_49 {E : EE} {p : Program} {l : Launch} {e : Env} {s : State} {m : MethodId} {args : Array Value} {below : List Frame} {meth : Method} {c : Code} {Q : Int32 → II → Prop} (X : CX E p s m args meth c cX6_readAll 1 (some .boolean) RX6) : ∀ (I : II) (H : Heap) (locs : List Loc) (ls : Array Slot), wp_X6_readAll_49 Q I → PP E s H locs I → lv_has ls 1 [(0, .ref (E.2.1 301))] → W p l e rmX6_readAll s m args below meth c H locs 0 0 (MQ below (va_Qi Q (BU E) E.2.2.2.1) args s 0 0 E.2.2.2.1) (F0 m 49 ls []) := by
  obtain ⟨⟨hx, hb, hml, hown, hts⟩, hr, hlk, hK, hST, hN⟩ := id X
  intro I H locs ls h hp hl
  unfold wp_X6_readAll_49 at h
  refine lv_aload_n hx hb dX6_readAll_49 rfl (lv_at hl 0 rfl) ?_
  refine f_X6_29 X hp dX6_readAll_50 ?_
  refine lv_if_ne (tgt := 60) hx hb dX6_readAll_53 (by decide) (fun c1 => ?_) (fun c1 => ?_)
  · have h := h.1 c1
    refine lv_iconst (v := (nI 0)) hx hb dX6_readAll_60 (by decide) ?_
    exact rt_z X hp ⟨Or.inl rfl, h⟩ dX6_readAll_61
  · have h := h.2 c1
    refine lv_iconst (v := (nI 1)) hx hb dX6_readAll_56 (by decide) ?_
    refine lv_goto (tgt := 61) hx hb dX6_readAll_57 (by decide) ?_
    exact rt_z X hp ⟨Or.inr rfl, h⟩ dX6_readAll_61
def wp_X6_readAll (I : II) (Q : Int32 → II → Prop) : Prop := (∀ I1 : II, I1 = su I 301 3 (nI 0) → (∀ I3 : II, I3 = su I1 301 4 (nI 0) → (wp_X1_clear 1 I3 (fun I5 => (wp_X6_readLaw I5 (fun I7 => (wp_X6_readTellers I7 (fun I9 => (wp_X6_readPapers I9 (fun I11 => (∀ I13 : II, I13 = su I11 301 2 (nI 0) → (((I13 301 4) = 0 → (wp_X6_readAll_49 Q I13)) ∧ (¬ (I13 301 4) = 0 → (∀ I16 : II, I16 = su I13 301 5 (I13 301 4) → (wp_X6_readAll_49 Q I16)))))))))))))))
set_option maxHeartbeats 4000000 in
set_option maxRecDepth 100000 in
theorem w_X6_readAll_0 {E : EE} {p : Program} {l : Launch} {e : Env} {s : State} {m : MethodId} {args : Array Value} {below : List Frame} {meth : Method} {c : Code} {Q : Int32 → II → Prop} (X : CX E p s m args meth c cX6_readAll 1 (some .boolean) RX6) : ∀ (I : II) (H : Heap) (locs : List Loc) (ls : Array Slot), wp_X6_readAll I Q → PP E s H locs I → lv_has ls 1 [(0, .ref (E.2.1 301))] → W p l e rmX6_readAll s m args below meth c H locs 0 0 (MQ below (va_Qi Q (BU E) E.2.2.2.1) args s 0 0 E.2.2.2.1) (F0 m 0 ls []) := by
  obtain ⟨⟨hx, hb, hml, hown, hts⟩, hr, hlk, hK, hST, hN⟩ := id X
  intro I H locs ls h hp hl
  unfold wp_X6_readAll at h
  refine lv_aload_n hx hb dX6_readAll_0 rfl (lv_at hl 0 rfl) ?_
  refine lv_iconst (v := (nI 0)) hx hb dX6_readAll_1 (by decide) ?_
  refine g_X6_26 X hp dX6_readAll_2 (fun H locs hp => ?_)
  obtain ⟨I1, e2⟩ : ∃ y, y = su I 301 3 (nI 0) := ⟨_, rfl⟩
  have hp : PP E s H locs I1 := by rw [e2]; exact hp
  have h := h I1 e2
  refine lv_aload_n hx hb dX6_readAll_5 rfl (lv_at hl 0 rfl) ?_
  refine lv_iconst (v := (nI 0)) hx hb dX6_readAll_6 (by decide) ?_
  refine g_X6_29 X hp dX6_readAll_7 (fun H locs hp => ?_)
  obtain ⟨I3, e4⟩ : ∃ y, y = su I1 301 4 (nI 0) := ⟨_, rfl⟩
  have hp : PP E s H locs I3 := by rw [e4]; exact hp
  have h := h I3 e4
  refine lv_aload_n hx hb dX6_readAll_10 rfl (lv_at hl 0 rfl) ?_
  refine f_X6_18 X hp dX6_readAll_11 ?_
  refine kv (kV (As := []) (rest := []) X hp (C_X1_clear (by decide) h) tw_ml_X6_32 vf_X1_clear ⟨rfl, rfl, Nat.le_of_ble_eq_true rfl, Nat.le_of_ble_eq_true rfl⟩ (pr_rcvb X hp (by decide)) rfl hl.1 rfl (Nat.le_of_ble_eq_true rfl) dX6_readAll_14) hp (fun I5 H locs h hp => ?_)
  refine lv_aload_n hx hb dX6_readAll_17 rfl (lv_at hl 0 rfl) ?_
  refine kv (kV (As := []) (rest := []) X hp (C_X6_readLaw  h) tw_ml_X6_35 vf_X6_readLaw ⟨rfl, rfl, Nat.le_of_ble_eq_true rfl, Nat.le_of_ble_eq_true rfl⟩ (pr_rcv X hp (k := 301) (by decide) (ob_301 _) (q := (RX6, TX6, 6)) rfl) rfl hl.1 rfl (Nat.le_of_ble_eq_true rfl) dX6_readAll_18) hp (fun I7 H locs h hp => ?_)
  refine lv_aload_n hx hb dX6_readAll_21 rfl (lv_at hl 0 rfl) ?_
  refine kv (kV (As := []) (rest := []) X hp (C_X6_readTellers  h) tw_ml_X6_38 vf_X6_readTellers ⟨rfl, rfl, Nat.le_of_ble_eq_true rfl, Nat.le_of_ble_eq_true rfl⟩ (pr_rcv X hp (k := 301) (by decide) (ob_301 _) (q := (RX6, TX6, 6)) rfl) rfl hl.1 rfl (Nat.le_of_ble_eq_true rfl) dX6_readAll_22) hp (fun I9 H locs h hp => ?_)
  refine lv_aload_n hx hb dX6_readAll_25 rfl (lv_at hl 0 rfl) ?_
  refine kv (kV (As := []) (rest := []) X hp (C_X6_readPapers  h) tw_ml_X6_41 vf_X6_readPapers ⟨rfl, rfl, Nat.le_of_ble_eq_true rfl, Nat.le_of_ble_eq_true rfl⟩ (pr_rcv X hp (k := 301) (by decide) (ob_301 _) (q := (RX6, TX6, 6)) rfl) rfl hl.1 rfl (Nat.le_of_ble_eq_true rfl) dX6_readAll_26) hp (fun I11 H locs h hp => ?_)
  refine lv_aload_n hx hb dX6_readAll_29 rfl (lv_at hl 0 rfl) ?_
  refine lv_iconst (v := (nI 0)) hx hb dX6_readAll_30 (by decide) ?_
  refine g_X6_22 X hp dX6_readAll_31 (fun H locs hp => ?_)
  obtain ⟨I13, e14⟩ : ∃ y, y = su I11 301 2 (nI 0) := ⟨_, rfl⟩
  have hp : PP E s H locs I13 := by rw [e14]; exact hp
  have h := h I13 e14
  refine lv_aload_n hx hb dX6_readAll_34 rfl (lv_at hl 0 rfl) ?_
  refine f_X6_29 X hp dX6_readAll_35 ?_
  refine lv_if_eq (tgt := 49) hx hb dX6_readAll_38 (by decide) (fun c15 => ?_) (fun c15 => ?_)
  · have h := h.1 c15
    exact w_X6_readAll_49 X  _ _ _ _ h hp (lv_sub hl [0] rfl)
  · have h := h.2 c15
    refine lv_aload_n hx hb dX6_readAll_41 rfl (lv_at hl 0 rfl) ?_
    refine lv_aload_n hx hb dX6_readAll_42 rfl (lv_at hl 0 rfl) ?_
    refine f_X6_29 X hp dX6_readAll_43 ?_
    refine g_X6_44 X hp dX6_readAll_46 (fun H locs hp => ?_)
    obtain ⟨I16, e17⟩ : ∃ y, y = su I13 301 5 (I13 301 4) := ⟨_, rfl⟩
    have hp : PP E s H locs I16 := by rw [e17]; exact hp
    have h := h I16 e17
    exact w_X6_readAll_49 X  _ _ _ _ h hp (lv_sub hl [0] rfl)
set_option maxRecDepth 100000 in
theorem C_X6_readAll {E : EE} {l : Launch} {I : II} {Q : Int32 → II → Prop} (h : wp_X6_readAll I Q) : Met l yX6_readAll (Cond.code yX6_readAll cX6_readAll 1 (some .boolean) :: lwT) rmX6_readAll (va_Pc [.ref (E.2.1 301)] (PU E I)) (va_Qi Q (BU E) E.2.2.2.1) 0 0 E.2.2.2.1 :=
  ofWalk [.ref (E.2.1 301)] (by decide) tw_c_X6_readAll (Nat.le_of_ble_eq_true rfl) (fun p e s m below meth c ls X hp hl => w_X6_readAll_0 X _ _ _ _ h hp hl)

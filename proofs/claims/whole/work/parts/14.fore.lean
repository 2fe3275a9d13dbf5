abbrev rmX2_after : Room := { frames := 4, cells := 0, slots := 0, locals := 90 }
theorem vf_X2_after : VF yX2_after RX2 cX2_after 4 (some (.object "TellerDays$Bank")) 2 := ⟨tw_in_X2, tw_im_X2_after, tw_se_X2_after, tw_c_X2_after, by decide, by decide, by decide +kernel⟩
def wp_X2_after_10 (j : Nat) (Q : II → Prop) (k29 : II → Prop) : Nat → Int32 → Int32 → II → Prop
  | 0, _, _, _ => False
  | n + 1, x2, x3, I => ((x2 ≤ x3 → (k29 I)) ∧ (¬ x2 ≤ x3 → (wp_X1_passTurn 2 I (fun r3 I2 => (wp_X2_after_10 j Q k29 n x2 (x3 + (nI 1)) I2)))))
set_option maxHeartbeats 4000000 in
set_option maxRecDepth 100000 in
theorem w_X2_after_10 {E : EE} {p : Program} {l : Launch} {e : Env} {s : State} {m : MethodId} {args : Array Value} {below : List Frame} {meth : Method} {c : Code} {Q : II → Prop} {k29 : II → Prop} (X : CX E p s m args meth c cX2_after 4 (some (.object "TellerDays$Bank")) RX2) {j : Nat} (hj : j < 37) (K29 : ∀ (I : II) (H : Heap) (locs : List Loc) (ls : Array Slot), k29 I → PP E s H locs I → lv_has ls 4 [(0, .ref (E.2.1 306))] → W p l e rmX2_after s m args below meth c H locs 0 0 (MQ below (va_Qr Q (BR E 2) E.2.2.2.1) args s 0 0 E.2.2.2.1) (F0 m 29 ls [])) : ∀ (n : Nat) (x2 : Int32) (x3 : Int32) (I : II) (H : Heap) (locs : List Loc) (ls : Array Slot), wp_X2_after_10 j Q k29 n x2 x3 I → PP E s H locs I → lv_has ls 4 [(0, .ref (E.2.1 306)), (2, .int x2), (3, .int x3)] → W p l e rmX2_after s m args below meth c H locs 0 0 (MQ below (va_Qr Q (BR E 2) E.2.2.2.1) args s 0 0 E.2.2.2.1) (F0 m 10 ls []) := by
  obtain ⟨⟨hx, hb, hml, hown, hts⟩, hr, hlk, hK, hST, hN⟩ := id X
  intro n
  induction n with
  | zero =>
    intro x2 x3 I H locs ls h hp hl
    exact False.elim h
  | succ n ih =>
    intro x2 x3 I H locs ls h hp hl
    rw [wp_X2_after_10.eq_2] at h
    refine lv_iload_n hx hb dX2_after_10 rfl (lv_at hl 2 rfl) ?_
    refine lv_iload_n hx hb dX2_after_11 rfl (lv_at hl 1 rfl) ?_
    refine lv_icmp_ge (tgt := 29) hx hb dX2_after_12 (by decide) (fun c1 => ?_) (fun c1 => ?_)
    · have h := h.1 c1
      exact K29 _ _ _ _ h hp (lv_sub hl [0] rfl)
    · have h := h.2 c1
      refine lv_aload_n hx hb dX2_after_15 rfl (lv_at hl 0 rfl) ?_
      refine f_X2_12 X hp dX2_after_16 ?_
      refine ki (kV (As := []) (rest := []) X hp (C_X1_passTurn (by decide) h) tw_ml_X2_26 vf_X1_passTurn ⟨rfl, rfl, Nat.le_of_ble_eq_true rfl, Nat.le_of_ble_eq_true rfl⟩ (pr_rcvb X hp (by decide)) rfl hl.1 rfl (Nat.le_of_ble_eq_true rfl) dX2_after_19) hp (fun r3 I2 H locs h hp => ?_)
      refine lv_pop hx hb dX2_after_22 rfl ?_
      refine lv_iinc (v := (x3 + (nI 1))) (lv' := [(3, .int (x3 + (nI 1))), (0, .ref (E.2.1 306)), (2, .int x2)]) hx hb dX2_after_23 hl (k := 2) rfl rfl (by decide) rfl (fun ls hl => ?_)
      refine lv_goto (tgt := 10) hx hb dX2_after_26 (by decide) ?_
      exact ih _ _ _ _ _ _ h hp (lv_sub hl [1, 2, 0] rfl)
def wp_X2_after (j : Nat) (x2 : Int32) (I : II) (Q : II → Prop) : Prop := (wp_X1_takeAll 2 j I (fun I1 => (∃ n53, wp_X2_after_10 j Q (fun I => (Q I)) n53 x2 (nI 0) I1)))
set_option maxHeartbeats 4000000 in
set_option maxRecDepth 100000 in
theorem w_X2_after_0 {E : EE} {p : Program} {l : Launch} {e : Env} {s : State} {m : MethodId} {args : Array Value} {below : List Frame} {meth : Method} {c : Code} {Q : II → Prop} (X : CX E p s m args meth c cX2_after 4 (some (.object "TellerDays$Bank")) RX2) {j : Nat} (hj : j < 37) : ∀ (x2 : Int32) (I : II) (H : Heap) (locs : List Loc) (ls : Array Slot), wp_X2_after j x2 I Q → PP E s H locs I → lv_has ls 4 [(0, .ref (E.2.1 306)), (1, .ref (E.2.1 (8 * j))), (2, .int x2)] → W p l e rmX2_after s m args below meth c H locs 0 0 (MQ below (va_Qr Q (BR E 2) E.2.2.2.1) args s 0 0 E.2.2.2.1) (F0 m 0 ls []) := by
  obtain ⟨⟨hx, hb, hml, hown, hts⟩, hr, hlk, hK, hST, hN⟩ := id X
  intro x2 I H locs ls h hp hl
  unfold wp_X2_after at h
  refine lv_aload_n hx hb dX2_after_0 rfl (lv_at hl 0 rfl) ?_
  refine f_X2_12 X hp dX2_after_1 ?_
  refine lv_aload_n hx hb dX2_after_4 rfl (lv_at hl 1 rfl) ?_
  refine kv (kV (As := [.ref (E.2.1 (8 * j))]) (rest := []) X hp (C_X1_takeAll (by decide) hj h) tw_ml_X2_22 vf_X1_takeAll ⟨rfl, rfl, Nat.le_of_ble_eq_true rfl, Nat.le_of_ble_eq_true rfl⟩ (pr_rcvb X hp (by decide)) rfl hl.1 rfl (Nat.le_of_ble_eq_true rfl) dX2_after_5) hp (fun I1 H locs h hp => ?_)
  refine lv_iconst (v := (nI 0)) hx hb dX2_after_8 (by decide) ?_
  refine lv_istore_n (lv' := [(3, .int (nI 0)), (0, .ref (E.2.1 306)), (1, .ref (E.2.1 (8 * j))), (2, .int x2)]) hx hb dX2_after_9 rfl hl (by decide) rfl (fun ls hl => ?_)
  obtain ⟨n53, h⟩ := h
  refine w_X2_after_10 X hj ?_ n53 _ _ _ _ _ _ h hp (lv_sub hl [1, 3, 0] rfl)
  · intro I H locs ls h hp hl
    refine lv_aload_n hx hb dX2_after_29 rfl (lv_at hl 0 rfl) ?_
    refine f_X2_12 X hp dX2_after_30 ?_
    exact rt_r X hp h dX2_after_33
set_option maxRecDepth 100000 in
theorem C_X2_after {E : EE} {l : Launch} {j : Nat} (hj : j < 37) {x2 : Int32} {I : II} {Q : II → Prop} (h : wp_X2_after j x2 I Q) : Met l yX2_after (Cond.code yX2_after cX2_after 4 (some (.object "TellerDays$Bank")) :: lwT) rmX2_after (va_Pc [.ref (E.2.1 306), .ref (E.2.1 (8 * j)), .int x2] (PU E I)) (va_Qr Q (BR E 2) E.2.2.2.1) 0 0 E.2.2.2.1 :=
  ofWalk [.ref (E.2.1 306), .ref (E.2.1 (8 * j)), .int x2] (by decide) tw_c_X2_after (Nat.le_of_ble_eq_true rfl) (fun p e s m below meth c ls X hp hl => w_X2_after_0 X hj _ _ _ _ _ h hp hl)
abbrev rmX2_serverOf : Room := { frames := 4, cells := 0, slots := 0, locals := 90 }
theorem vf_X2_serverOf : VF yX2_serverOf RX2 cX2_serverOf 6 (some .int) 2 := ⟨tw_in_X2, tw_im_X2_serverOf, tw_se_X2_serverOf, tw_c_X2_serverOf, by decide, by decide, by decide +kernel⟩
def wp_X2_serverOf_21 (j : Nat) (Q : Int32 → II → Prop) (k42 : Int32 → II → Prop) : Nat → Int32 → Int32 → Int32 → II → Prop
  | 0, _, _, _, _ => False
  | n + 1, x3, x4, x5, I => ((x3 < x5 → (k42 x4 I)) ∧ (¬ x3 < x5 → (wp_X1_passTurn 2 I (fun r3 I2 => (wp_X2_serverOf_21 j Q k42 n x3 r3 (x5 + (nI 1)) I2)))))
set_option maxHeartbeats 4000000 in
set_option maxRecDepth 100000 in
theorem w_X2_serverOf_21 {E : EE} {p : Program} {l : Launch} {e : Env} {s : State} {m : MethodId} {args : Array Value} {below : List Frame} {meth : Method} {c : Code} {Q : Int32 → II → Prop} {k42 : Int32 → II → Prop} (X : CX E p s m args meth c cX2_serverOf 6 (some .int) RX2) {j : Nat} (hj : j < 37) (K42 : ∀ (x4 : Int32) (I : II) (H : Heap) (locs : List Loc) (ls : Array Slot), k42 x4 I → PP E s H locs I → lv_has ls 6 [(4, .int x4)] → W p l e rmX2_serverOf s m args below meth c H locs 0 0 (MQ below (va_Qi Q (BU E) E.2.2.2.1) args s 0 0 E.2.2.2.1) (F0 m 42 ls [])) : ∀ (n : Nat) (x3 : Int32) (x4 : Int32) (x5 : Int32) (I : II) (H : Heap) (locs : List Loc) (ls : Array Slot), wp_X2_serverOf_21 j Q k42 n x3 x4 x5 I → PP E s H locs I → lv_has ls 6 [(0, .ref (E.2.1 306)), (3, .int x3), (4, .int x4), (5, .int x5)] → W p l e rmX2_serverOf s m args below meth c H locs 0 0 (MQ below (va_Qi Q (BU E) E.2.2.2.1) args s 0 0 E.2.2.2.1) (F0 m 21 ls []) := by
  obtain ⟨⟨hx, hb, hml, hown, hts⟩, hr, hlk, hK, hST, hN⟩ := id X
  intro n
  induction n with
  | zero =>
    intro x3 x4 x5 I H locs ls h hp hl
    exact False.elim h
  | succ n ih =>
    intro x3 x4 x5 I H locs ls h hp hl
    rw [wp_X2_serverOf_21.eq_2] at h
    refine lv_iload hx hb dX2_serverOf_21 (lv_at hl 3 rfl) ?_
    refine lv_iload_n hx hb dX2_serverOf_23 rfl (lv_at hl 1 rfl) ?_
    refine lv_icmp_gt (tgt := 42) hx hb dX2_serverOf_24 (by decide) (fun c1 => ?_) (fun c1 => ?_)
    · have h := h.1 c1
      exact K42 _ _ _ _ _ h hp (lv_sub hl [2] rfl)
    · have h := h.2 c1
      refine lv_aload_n hx hb dX2_serverOf_27 rfl (lv_at hl 0 rfl) ?_
      refine f_X2_12 X hp dX2_serverOf_28 ?_
      refine ki (kV (As := []) (rest := []) X hp (C_X1_passTurn (by decide) h) tw_ml_X2_26 vf_X1_passTurn ⟨rfl, rfl, Nat.le_of_ble_eq_true rfl, Nat.le_of_ble_eq_true rfl⟩ (pr_rcvb X hp (by decide)) rfl hl.1 rfl (Nat.le_of_ble_eq_true rfl) dX2_serverOf_31) hp (fun r3 I2 H locs h hp => ?_)
      refine lv_istore (lv' := [(4, .int r3), (0, .ref (E.2.1 306)), (3, .int x3), (5, .int x5)]) hx hb dX2_serverOf_34 hl (by decide) rfl (fun ls hl => ?_)
      refine lv_iinc (v := (x5 + (nI 1))) (lv' := [(5, .int (x5 + (nI 1))), (4, .int r3), (0, .ref (E.2.1 306)), (3, .int x3)]) hx hb dX2_serverOf_36 hl (k := 3) rfl rfl (by decide) rfl (fun ls hl => ?_)
      refine lv_goto (tgt := 21) hx hb dX2_serverOf_39 (by decide) ?_
      exact ih _ _ _ _ _ _ _ h hp (lv_sub hl [2, 3, 1, 0] rfl)
def wp_X2_serverOf (j : Nat) (x2 : Int32) (I : II) (Q : Int32 → II → Prop) : Prop := (wp_X1_placeOf j x2 I (fun r2 I1 => (wp_X1_takeAll 2 j I1 (fun I3 => (∃ n55, wp_X2_serverOf_21 j Q (fun x4 I => (Q x4 I)) n55 r2 (-nI 1000000) (nI 0) I3)))))
set_option maxHeartbeats 4000000 in
set_option maxRecDepth 100000 in
theorem w_X2_serverOf_0 {E : EE} {p : Program} {l : Launch} {e : Env} {s : State} {m : MethodId} {args : Array Value} {below : List Frame} {meth : Method} {c : Code} {Q : Int32 → II → Prop} (X : CX E p s m args meth c cX2_serverOf 6 (some .int) RX2) {j : Nat} (hj : j < 37) : ∀ (x2 : Int32) (I : II) (H : Heap) (locs : List Loc) (ls : Array Slot), wp_X2_serverOf j x2 I Q → PP E s H locs I → lv_has ls 6 [(0, .ref (E.2.1 306)), (1, .ref (E.2.1 (8 * j))), (2, .int x2)] → W p l e rmX2_serverOf s m args below meth c H locs 0 0 (MQ below (va_Qi Q (BU E) E.2.2.2.1) args s 0 0 E.2.2.2.1) (F0 m 0 ls []) := by
  obtain ⟨⟨hx, hb, hml, hown, hts⟩, hr, hlk, hK, hST, hN⟩ := id X
  intro x2 I H locs ls h hp hl
  unfold wp_X2_serverOf at h
  refine lv_aload_n hx hb dX2_serverOf_0 rfl (lv_at hl 1 rfl) ?_
  refine lv_iload_n hx hb dX2_serverOf_1 rfl (lv_at hl 2 rfl) ?_
  refine ki (kV (As := [.int x2]) (rest := []) X hp (C_X1_placeOf hj h) tw_ml_X2_30 vf_X1_placeOf ⟨rfl, rfl, Nat.le_of_ble_eq_true rfl, Nat.le_of_ble_eq_true rfl⟩ (pr_rcvb X hp hj) rfl hl.1 rfl (Nat.le_of_ble_eq_true rfl) dX2_serverOf_2) hp (fun r2 I1 H locs h hp => ?_)
  refine lv_istore_n (lv' := [(3, .int r2), (0, .ref (E.2.1 306)), (1, .ref (E.2.1 (8 * j))), (2, .int x2)]) hx hb dX2_serverOf_5 rfl hl (by decide) rfl (fun ls hl => ?_)
  refine lv_ldc (v := (-nI 1000000)) hx hb hown (hts _ tw_k_X2_34) dX2_serverOf_6 ?_
  refine lv_istore (lv' := [(4, .int (-nI 1000000)), (3, .int r2), (0, .ref (E.2.1 306)), (1, .ref (E.2.1 (8 * j))), (2, .int x2)]) hx hb dX2_serverOf_8 hl (by decide) rfl (fun ls hl => ?_)
  refine lv_aload_n hx hb dX2_serverOf_10 rfl (lv_at hl 2 rfl) ?_
  refine f_X2_12 X hp dX2_serverOf_11 ?_
  refine lv_aload_n hx hb dX2_serverOf_14 rfl (lv_at hl 3 rfl) ?_
  refine kv (kV (As := [.ref (E.2.1 (8 * j))]) (rest := []) X hp (C_X1_takeAll (by decide) hj h) tw_ml_X2_22 vf_X1_takeAll ⟨rfl, rfl, Nat.le_of_ble_eq_true rfl, Nat.le_of_ble_eq_true rfl⟩ (pr_rcvb X hp (by decide)) rfl hl.1 rfl (Nat.le_of_ble_eq_true rfl) dX2_serverOf_15) hp (fun I3 H locs h hp => ?_)
  refine lv_iconst (v := (nI 0)) hx hb dX2_serverOf_18 (by decide) ?_
  refine lv_istore (lv' := [(5, .int (nI 0)), (4, .int (-nI 1000000)), (3, .int r2), (0, .ref (E.2.1 306)), (1, .ref (E.2.1 (8 * j))), (2, .int x2)]) hx hb dX2_serverOf_19 hl (by decide) rfl (fun ls hl => ?_)
  obtain ⟨n55, h⟩ := h
  refine w_X2_serverOf_21 X hj ?_ n55 _ _ _ _ _ _ _ h hp (lv_sub hl [3, 2, 1, 0] rfl)
  · intro x4 I H locs ls h hp hl
    refine lv_iload hx hb dX2_serverOf_42 (lv_at hl 0 rfl) ?_
    exact rt_i X hp h dX2_serverOf_44
set_option maxRecDepth 100000 in
theorem C_X2_serverOf {E : EE} {l : Launch} {j : Nat} (hj : j < 37) {x2 : Int32} {I : II} {Q : Int32 → II → Prop} (h : wp_X2_serverOf j x2 I Q) : Met l yX2_serverOf (Cond.code yX2_serverOf cX2_serverOf 6 (some .int) :: lwT) rmX2_serverOf (va_Pc [.ref (E.2.1 306), .ref (E.2.1 (8 * j)), .int x2] (PU E I)) (va_Qi Q (BU E) E.2.2.2.1) 0 0 E.2.2.2.1 :=
  ofWalk [.ref (E.2.1 306), .ref (E.2.1 (8 * j)), .int x2] (by decide) tw_c_X2_serverOf (Nat.le_of_ble_eq_true rfl) (fun p e s m below meth c ls X hp hl => w_X2_serverOf_0 X hj _ _ _ _ _ h hp hl)
abbrev rmX2_ghostPaidAhead : Room := { frames := 4, cells := 0, slots := 0, locals := 90 }
theorem vf_X2_ghostPaidAhead : VF yX2_ghostPaidAhead RX2 cX2_ghostPaidAhead 3 (some .int) 0 := ⟨tw_in_X2, tw_im_X2_ghostPaidAhead, tw_se_X2_ghostPaidAhead, tw_c_X2_ghostPaidAhead, by decide, by decide, by decide +kernel⟩
def wp_X2_ghostPaidAhead_10 (Q : Int32 → II → Prop) (k27 : Int32 → II → Prop) (k35 : Int32 → II → Prop) : Nat → Int32 → Int32 → II → Prop
  | 0, _, _, _ => False
  | n + 1, x1, x2, I => ((x1 ≤ x2 → (k35 x1 I)) ∧ (¬ x1 ≤ x2 → (wp_X1_passTurn 2 I (fun r3 I2 => ((¬ r3 = (-nI 1000000) → (wp_X2_ghostPaidAhead_10 Q k27 k35 n x1 (x2 + (nI 1)) I2)) ∧ (r3 = (-nI 1000000) → (k27 x2 I2)))))))
set_option maxHeartbeats 4000000 in
set_option maxRecDepth 100000 in
theorem w_X2_ghostPaidAhead_10 {E : EE} {p : Program} {l : Launch} {e : Env} {s : State} {m : MethodId} {args : Array Value} {below : List Frame} {meth : Method} {c : Code} {Q : Int32 → II → Prop} {k27 : Int32 → II → Prop} {k35 : Int32 → II → Prop} (X : CX E p s m args meth c cX2_ghostPaidAhead 3 (some .int) RX2) (K27 : ∀ (x2 : Int32) (I : II) (H : Heap) (locs : List Loc) (ls : Array Slot), k27 x2 I → PP E s H locs I → lv_has ls 3 [(2, .int x2)] → W p l e rmX2_ghostPaidAhead s m args below meth c H locs 0 0 (MQ below (va_Qi Q (BU E) E.2.2.2.1) args s 0 0 E.2.2.2.1) (F0 m 27 ls [])) (K35 : ∀ (x1 : Int32) (I : II) (H : Heap) (locs : List Loc) (ls : Array Slot), k35 x1 I → PP E s H locs I → lv_has ls 3 [(1, .int x1)] → W p l e rmX2_ghostPaidAhead s m args below meth c H locs 0 0 (MQ below (va_Qi Q (BU E) E.2.2.2.1) args s 0 0 E.2.2.2.1) (F0 m 35 ls [])) : ∀ (n : Nat) (x1 : Int32) (x2 : Int32) (I : II) (H : Heap) (locs : List Loc) (ls : Array Slot), wp_X2_ghostPaidAhead_10 Q k27 k35 n x1 x2 I → PP E s H locs I → lv_has ls 3 [(0, .ref (E.2.1 306)), (1, .int x1), (2, .int x2)] → W p l e rmX2_ghostPaidAhead s m args below meth c H locs 0 0 (MQ below (va_Qi Q (BU E) E.2.2.2.1) args s 0 0 E.2.2.2.1) (F0 m 10 ls []) := by
  obtain ⟨⟨hx, hb, hml, hown, hts⟩, hr, hlk, hK, hST, hN⟩ := id X
  intro n
  induction n with
  | zero =>
    intro x1 x2 I H locs ls h hp hl
    exact False.elim h
  | succ n ih =>
    intro x1 x2 I H locs ls h hp hl
    rw [wp_X2_ghostPaidAhead_10.eq_2] at h
    refine lv_iload_n hx hb dX2_ghostPaidAhead_10 rfl (lv_at hl 2 rfl) ?_
    refine lv_iload_n hx hb dX2_ghostPaidAhead_11 rfl (lv_at hl 1 rfl) ?_
    refine lv_icmp_ge (tgt := 35) hx hb dX2_ghostPaidAhead_12 (by decide) (fun c1 => ?_) (fun c1 => ?_)
    · have h := h.1 c1
      exact K35 _ _ _ _ _ h hp (lv_sub hl [1] rfl)
    · have h := h.2 c1
      refine lv_aload_n hx hb dX2_ghostPaidAhead_15 rfl (lv_at hl 0 rfl) ?_
      refine f_X2_12 X hp dX2_ghostPaidAhead_16 ?_
      refine ki (kV (As := []) (rest := []) X hp (C_X1_passTurn (by decide) h) tw_ml_X2_26 vf_X1_passTurn ⟨rfl, rfl, Nat.le_of_ble_eq_true rfl, Nat.le_of_ble_eq_true rfl⟩ (pr_rcvb X hp (by decide)) rfl hl.1 rfl (Nat.le_of_ble_eq_true rfl) dX2_ghostPaidAhead_19) hp (fun r3 I2 H locs h hp => ?_)
      refine lv_ldc (v := (-nI 1000000)) hx hb hown (hts _ tw_k_X2_34) dX2_ghostPaidAhead_22 ?_
      refine lv_icmp_ne (tgt := 29) hx hb dX2_ghostPaidAhead_24 (by decide) (fun c4 => ?_) (fun c4 => ?_)
      · have h := h.1 c4
        refine lv_iinc (v := (x2 + (nI 1))) (lv' := [(2, .int (x2 + (nI 1))), (0, .ref (E.2.1 306)), (1, .int x1)]) hx hb dX2_ghostPaidAhead_29 hl (k := 2) rfl rfl (by decide) rfl (fun ls hl => ?_)
        refine lv_goto (tgt := 10) hx hb dX2_ghostPaidAhead_32 (by decide) ?_
        exact ih _ _ _ _ _ _ h hp (lv_sub hl [1, 2, 0] rfl)
      · have h := h.2 c4
        exact K27 _ _ _ _ _ h hp (lv_sub hl [2] rfl)
def wp_X2_ghostPaidAhead (I : II) (Q : Int32 → II → Prop) : Prop := (∃ n101, wp_X2_ghostPaidAhead_10 Q (fun x2 I => (Q x2 I)) (fun x1 I => (Q x1 I)) n101 (I (8 * 2) 7) (nI 0) I)
set_option maxHeartbeats 4000000 in
set_option maxRecDepth 100000 in
theorem w_X2_ghostPaidAhead_0 {E : EE} {p : Program} {l : Launch} {e : Env} {s : State} {m : MethodId} {args : Array Value} {below : List Frame} {meth : Method} {c : Code} {Q : Int32 → II → Prop} (X : CX E p s m args meth c cX2_ghostPaidAhead 3 (some .int) RX2) : ∀ (I : II) (H : Heap) (locs : List Loc) (ls : Array Slot), wp_X2_ghostPaidAhead I Q → PP E s H locs I → lv_has ls 3 [(0, .ref (E.2.1 306))] → W p l e rmX2_ghostPaidAhead s m args below meth c H locs 0 0 (MQ below (va_Qi Q (BU E) E.2.2.2.1) args s 0 0 E.2.2.2.1) (F0 m 0 ls []) := by
  obtain ⟨⟨hx, hb, hml, hown, hts⟩, hr, hlk, hK, hST, hN⟩ := id X
  intro I H locs ls h hp hl
  unfold wp_X2_ghostPaidAhead at h
  refine lv_aload_n hx hb dX2_ghostPaidAhead_0 rfl (lv_at hl 0 rfl) ?_
  refine f_X2_12 X hp dX2_ghostPaidAhead_1 ?_
  refine f_X2_38 X hp (by decide) dX2_ghostPaidAhead_4 ?_
  refine lv_istore_n (lv' := [(1, .int (I (8 * 2) 7)), (0, .ref (E.2.1 306))]) hx hb dX2_ghostPaidAhead_7 rfl hl (by decide) rfl (fun ls hl => ?_)
  refine lv_iconst (v := (nI 0)) hx hb dX2_ghostPaidAhead_8 (by decide) ?_
  refine lv_istore_n (lv' := [(2, .int (nI 0)), (1, .int (I (8 * 2) 7)), (0, .ref (E.2.1 306))]) hx hb dX2_ghostPaidAhead_9 rfl hl (by decide) rfl (fun ls hl => ?_)
  obtain ⟨n101, h⟩ := h
  refine w_X2_ghostPaidAhead_10 X ?_ ?_ n101 _ _ _ _ _ _ h hp (lv_sub hl [2, 1, 0] rfl)
  · intro x2 I H locs ls h hp hl
    refine lv_iload_n hx hb dX2_ghostPaidAhead_27 rfl (lv_at hl 0 rfl) ?_
    exact rt_i X hp h dX2_ghostPaidAhead_28
  · intro x1 I H locs ls h hp hl
    refine lv_iload_n hx hb dX2_ghostPaidAhead_35 rfl (lv_at hl 0 rfl) ?_
    exact rt_i X hp h dX2_ghostPaidAhead_36
set_option maxRecDepth 100000 in
theorem C_X2_ghostPaidAhead {E : EE} {l : Launch} {I : II} {Q : Int32 → II → Prop} (h : wp_X2_ghostPaidAhead I Q) : Met l yX2_ghostPaidAhead (Cond.code yX2_ghostPaidAhead cX2_ghostPaidAhead 3 (some .int) :: lwT) rmX2_ghostPaidAhead (va_Pc [.ref (E.2.1 306)] (PU E I)) (va_Qi Q (BU E) E.2.2.2.1) 0 0 E.2.2.2.1 :=
  ofWalk [.ref (E.2.1 306)] (by decide) tw_c_X2_ghostPaidAhead (Nat.le_of_ble_eq_true rfl) (fun p e s m below meth c ls X hp hl => w_X2_ghostPaidAhead_0 X _ _ _ _ h hp hl)
abbrev rmX2_paidAhead : Room := { frames := 5, cells := 0, slots := 0, locals := 112 }
theorem vf_X2_paidAhead : VF yX2_paidAhead RX2 cX2_paidAhead 2 (some .int) 1 := ⟨tw_in_X2, tw_im_X2_paidAhead, tw_se_X2_paidAhead, tw_c_X2_paidAhead, by decide, by decide, by decide +kernel⟩
def wp_X2_paidAhead (j : Nat) (I : II) (Q : Int32 → II → Prop) : Prop := (wp_X1_takeAll 2 j I (fun I1 => (wp_X2_ghostPaidAhead I1 (fun r4 I3 => (Q r4 I3)))))
set_option maxHeartbeats 4000000 in
set_option maxRecDepth 100000 in
theorem w_X2_paidAhead_0 {E : EE} {p : Program} {l : Launch} {e : Env} {s : State} {m : MethodId} {args : Array Value} {below : List Frame} {meth : Method} {c : Code} {Q : Int32 → II → Prop} (X : CX E p s m args meth c cX2_paidAhead 2 (some .int) RX2) {j : Nat} (hj : j < 37) : ∀ (I : II) (H : Heap) (locs : List Loc) (ls : Array Slot), wp_X2_paidAhead j I Q → PP E s H locs I → lv_has ls 2 [(0, .ref (E.2.1 306)), (1, .ref (E.2.1 (8 * j)))] → W p l e rmX2_paidAhead s m args below meth c H locs 0 0 (MQ below (va_Qi Q (BU E) E.2.2.2.1) args s 0 0 E.2.2.2.1) (F0 m 0 ls []) := by
  obtain ⟨⟨hx, hb, hml, hown, hts⟩, hr, hlk, hK, hST, hN⟩ := id X
  intro I H locs ls h hp hl
  unfold wp_X2_paidAhead at h
  refine lv_aload_n hx hb dX2_paidAhead_0 rfl (lv_at hl 0 rfl) ?_
  refine f_X2_12 X hp dX2_paidAhead_1 ?_
  refine lv_aload_n hx hb dX2_paidAhead_4 rfl (lv_at hl 1 rfl) ?_
  refine kv (kV (As := [.ref (E.2.1 (8 * j))]) (rest := []) X hp (C_X1_takeAll (by decide) hj h) tw_ml_X2_22 vf_X1_takeAll ⟨rfl, rfl, Nat.le_of_ble_eq_true rfl, Nat.le_of_ble_eq_true rfl⟩ (pr_rcvb X hp (by decide)) rfl hl.1 rfl (Nat.le_of_ble_eq_true rfl) dX2_paidAhead_5) hp (fun I1 H locs h hp => ?_)
  refine lv_aload_n hx hb dX2_paidAhead_8 rfl (lv_at hl 0 rfl) ?_
  refine ki (kV (As := []) (rest := []) X hp (C_X2_ghostPaidAhead  h) tw_ml_X2_35 vf_X2_ghostPaidAhead ⟨rfl, rfl, Nat.le_of_ble_eq_true rfl, Nat.le_of_ble_eq_true rfl⟩ (pr_rcv X hp (k := 306) (by decide) (ob_306 _) (q := (RX2, TX2, 4)) rfl) rfl hl.1 rfl (Nat.le_of_ble_eq_true rfl) dX2_paidAhead_9) hp (fun r4 I3 H locs h hp => ?_)
  exact rt_i X hp h dX2_paidAhead_12
set_option maxRecDepth 100000 in
theorem C_X2_paidAhead {E : EE} {l : Launch} {j : Nat} (hj : j < 37) {I : II} {Q : Int32 → II → Prop} (h : wp_X2_paidAhead j I Q) : Met l yX2_paidAhead (Cond.code yX2_paidAhead cX2_paidAhead 2 (some .int) :: lwT) rmX2_paidAhead (va_Pc [.ref (E.2.1 306), .ref (E.2.1 (8 * j))] (PU E I)) (va_Qi Q (BU E) E.2.2.2.1) 0 0 E.2.2.2.1 :=
  ofWalk [.ref (E.2.1 306), .ref (E.2.1 (8 * j))] (by decide) tw_c_X2_paidAhead (Nat.le_of_ble_eq_true rfl) (fun p e s m below meth c ls X hp hl => w_X2_paidAhead_0 X hj _ _ _ _ h hp hl)
abbrev rmX2_firstInfant : Room := { frames := 4, cells := 0, slots := 0, locals := 90 }
theorem vf_X2_firstInfant : VF yX2_firstInfant RX2 cX2_firstInfant 3 (some .int) 1 := ⟨tw_in_X2, tw_im_X2_firstInfant, tw_se_X2_firstInfant, tw_c_X2_firstInfant, by decide, by decide, by decide +kernel⟩
def wp_X2_firstInfant_10 (j : Nat) (Q : Int32 → II → Prop) (k44 : II → Prop) : Nat → Int32 → II → Prop
  | 0, _, _ => False
  | n + 1, x2, I => (((I (8 * j) 7) ≤ x2 → (k44 I)) ∧ (¬ (I (8 * j) 7) ≤ x2 → (wp_X1_firstWithInfancy 2 I (fun r3 I2 => ((¬ r3 = (-nI 1000000) → (k44 I2)) ∧ (r3 = (-nI 1000000) → (wp_X1_passTurn 2 I2 (fun r6 I5 => (wp_X2_firstInfant_10 j Q k44 n (x2 + (nI 1)) I5)))))))))
set_option maxHeartbeats 4000000 in
set_option maxRecDepth 100000 in
theorem w_X2_firstInfant_10 {E : EE} {p : Program} {l : Launch} {e : Env} {s : State} {m : MethodId} {args : Array Value} {below : List Frame} {meth : Method} {c : Code} {Q : Int32 → II → Prop} {k44 : II → Prop} (X : CX E p s m args meth c cX2_firstInfant 3 (some .int) RX2) {j : Nat} (hj : j < 37) (K44 : ∀ (I : II) (H : Heap) (locs : List Loc) (ls : Array Slot), k44 I → PP E s H locs I → lv_has ls 3 [(0, .ref (E.2.1 306))] → W p l e rmX2_firstInfant s m args below meth c H locs 0 0 (MQ below (va_Qi Q (BU E) E.2.2.2.1) args s 0 0 E.2.2.2.1) (F0 m 44 ls [])) : ∀ (n : Nat) (x2 : Int32) (I : II) (H : Heap) (locs : List Loc) (ls : Array Slot), wp_X2_firstInfant_10 j Q k44 n x2 I → PP E s H locs I → lv_has ls 3 [(0, .ref (E.2.1 306)), (1, .ref (E.2.1 (8 * j))), (2, .int x2)] → W p l e rmX2_firstInfant s m args below meth c H locs 0 0 (MQ below (va_Qi Q (BU E) E.2.2.2.1) args s 0 0 E.2.2.2.1) (F0 m 10 ls []) := by
  obtain ⟨⟨hx, hb, hml, hown, hts⟩, hr, hlk, hK, hST, hN⟩ := id X
  intro n
  induction n with
  | zero =>
    intro x2 I H locs ls h hp hl
    exact False.elim h
  | succ n ih =>
    intro x2 I H locs ls h hp hl
    rw [wp_X2_firstInfant_10.eq_2] at h
    refine lv_iload_n hx hb dX2_firstInfant_10 rfl (lv_at hl 2 rfl) ?_
    refine lv_aload_n hx hb dX2_firstInfant_11 rfl (lv_at hl 1 rfl) ?_
    refine f_X2_38 X hp hj dX2_firstInfant_12 ?_
    refine lv_icmp_ge (tgt := 44) hx hb dX2_firstInfant_15 (by decide) (fun c1 => ?_) (fun c1 => ?_)
    · have h := h.1 c1
      exact K44 _ _ _ _ h hp (lv_sub hl [0] rfl)
    · have h := h.2 c1
      refine lv_aload_n hx hb dX2_firstInfant_18 rfl (lv_at hl 0 rfl) ?_
      refine f_X2_12 X hp dX2_firstInfant_19 ?_
      refine ki (kV (As := []) (rest := []) X hp (C_X1_firstWithInfancy (by decide) h) tw_ml_X2_42 vf_X1_firstWithInfancy ⟨rfl, rfl, Nat.le_of_ble_eq_true rfl, Nat.le_of_ble_eq_true rfl⟩ (pr_rcvb X hp (by decide)) rfl hl.1 rfl (Nat.le_of_ble_eq_true rfl) dX2_firstInfant_22) hp (fun r3 I2 H locs h hp => ?_)
      refine lv_ldc (v := (-nI 1000000)) hx hb hown (hts _ tw_k_X2_34) dX2_firstInfant_25 ?_
      refine lv_icmp_ne (tgt := 44) hx hb dX2_firstInfant_27 (by decide) (fun c4 => ?_) (fun c4 => ?_)
      · have h := h.1 c4
        exact K44 _ _ _ _ h hp (lv_sub hl [0] rfl)
      · have h := h.2 c4
        refine lv_aload_n hx hb dX2_firstInfant_30 rfl (lv_at hl 0 rfl) ?_
        refine f_X2_12 X hp dX2_firstInfant_31 ?_
        refine ki (kV (As := []) (rest := []) X hp (C_X1_passTurn (by decide) h) tw_ml_X2_26 vf_X1_passTurn ⟨rfl, rfl, Nat.le_of_ble_eq_true rfl, Nat.le_of_ble_eq_true rfl⟩ (pr_rcvb X hp (by decide)) rfl hl.1 rfl (Nat.le_of_ble_eq_true rfl) dX2_firstInfant_34) hp (fun r6 I5 H locs h hp => ?_)
        refine lv_pop hx hb dX2_firstInfant_37 rfl ?_
        refine lv_iinc (v := (x2 + (nI 1))) (lv' := [(2, .int (x2 + (nI 1))), (0, .ref (E.2.1 306)), (1, .ref (E.2.1 (8 * j)))]) hx hb dX2_firstInfant_38 hl (k := 2) rfl rfl (by decide) rfl (fun ls hl => ?_)
        refine lv_goto (tgt := 10) hx hb dX2_firstInfant_41 (by decide) ?_
        exact ih _ _ _ _ _ h hp (lv_sub hl [1, 2, 0] rfl)
def wp_X2_firstInfant_44 (j : Nat) (Q : Int32 → II → Prop) (I : II) : Prop := (wp_X1_firstWithInfancy 2 I (fun r2 I1 => (Q r2 I1)))
set_option maxHeartbeats 4000000 in
set_option maxRecDepth 100000 in
theorem w_X2_firstInfant_44 {E : EE} {p : Program} {l : Launch} {e : Env} {s : State} {m : MethodId} {args : Array Value} {below : List Frame} {meth : Method} {c : Code} {Q : Int32 → II → Prop} (X : CX E p s m args meth c cX2_firstInfant 3 (some .int) RX2) {j : Nat} (hj : j < 37) : ∀ (I : II) (H : Heap) (locs : List Loc) (ls : Array Slot), wp_X2_firstInfant_44 j Q I → PP E s H locs I → lv_has ls 3 [(0, .ref (E.2.1 306))] → W p l e rmX2_firstInfant s m args below meth c H locs 0 0 (MQ below (va_Qi Q (BU E) E.2.2.2.1) args s 0 0 E.2.2.2.1) (F0 m 44 ls []) := by
  obtain ⟨⟨hx, hb, hml, hown, hts⟩, hr, hlk, hK, hST, hN⟩ := id X
  intro I H locs ls h hp hl
  unfold wp_X2_firstInfant_44 at h
  refine lv_aload_n hx hb dX2_firstInfant_44 rfl (lv_at hl 0 rfl) ?_
  refine f_X2_12 X hp dX2_firstInfant_45 ?_
  refine ki (kV (As := []) (rest := []) X hp (C_X1_firstWithInfancy (by decide) h) tw_ml_X2_42 vf_X1_firstWithInfancy ⟨rfl, rfl, Nat.le_of_ble_eq_true rfl, Nat.le_of_ble_eq_true rfl⟩ (pr_rcvb X hp (by decide)) rfl hl.1 rfl (Nat.le_of_ble_eq_true rfl) dX2_firstInfant_48) hp (fun r2 I1 H locs h hp => ?_)
  exact rt_i X hp h dX2_firstInfant_51
def wp_X2_firstInfant (j : Nat) (I : II) (Q : Int32 → II → Prop) : Prop := (wp_X1_takeAll 2 j I (fun I1 => (∃ n53, wp_X2_firstInfant_10 j Q (fun I => (wp_X2_firstInfant_44 j Q I)) n53 (nI 0) I1)))
set_option maxHeartbeats 4000000 in
set_option maxRecDepth 100000 in
theorem w_X2_firstInfant_0 {E : EE} {p : Program} {l : Launch} {e : Env} {s : State} {m : MethodId} {args : Array Value} {below : List Frame} {meth : Method} {c : Code} {Q : Int32 → II → Prop} (X : CX E p s m args meth c cX2_firstInfant 3 (some .int) RX2) {j : Nat} (hj : j < 37) : ∀ (I : II) (H : Heap) (locs : List Loc) (ls : Array Slot), wp_X2_firstInfant j I Q → PP E s H locs I → lv_has ls 3 [(0, .ref (E.2.1 306)), (1, .ref (E.2.1 (8 * j)))] → W p l e rmX2_firstInfant s m args below meth c H locs 0 0 (MQ below (va_Qi Q (BU E) E.2.2.2.1) args s 0 0 E.2.2.2.1) (F0 m 0 ls []) := by
  obtain ⟨⟨hx, hb, hml, hown, hts⟩, hr, hlk, hK, hST, hN⟩ := id X
  intro I H locs ls h hp hl
  unfold wp_X2_firstInfant at h
  refine lv_aload_n hx hb dX2_firstInfant_0 rfl (lv_at hl 0 rfl) ?_
  refine f_X2_12 X hp dX2_firstInfant_1 ?_
  refine lv_aload_n hx hb dX2_firstInfant_4 rfl (lv_at hl 1 rfl) ?_
  refine kv (kV (As := [.ref (E.2.1 (8 * j))]) (rest := []) X hp (C_X1_takeAll (by decide) hj h) tw_ml_X2_22 vf_X1_takeAll ⟨rfl, rfl, Nat.le_of_ble_eq_true rfl, Nat.le_of_ble_eq_true rfl⟩ (pr_rcvb X hp (by decide)) rfl hl.1 rfl (Nat.le_of_ble_eq_true rfl) dX2_firstInfant_5) hp (fun I1 H locs h hp => ?_)
  refine lv_iconst (v := (nI 0)) hx hb dX2_firstInfant_8 (by decide) ?_
  refine lv_istore_n (lv' := [(2, .int (nI 0)), (0, .ref (E.2.1 306)), (1, .ref (E.2.1 (8 * j)))]) hx hb dX2_firstInfant_9 rfl hl (by decide) rfl (fun ls hl => ?_)
  obtain ⟨n53, h⟩ := h
  refine w_X2_firstInfant_10 X hj ?_ n53 _ _ _ _ _ h hp (lv_sub hl [1, 2, 0] rfl)
  · intro I H locs ls h hp hl
    exact w_X2_firstInfant_44 X hj  _ _ _ _ h hp (lv_sub hl [0] rfl)
set_option maxRecDepth 100000 in
theorem C_X2_firstInfant {E : EE} {l : Launch} {j : Nat} (hj : j < 37) {I : II} {Q : Int32 → II → Prop} (h : wp_X2_firstInfant j I Q) : Met l yX2_firstInfant (Cond.code yX2_firstInfant cX2_firstInfant 3 (some .int) :: lwT) rmX2_firstInfant (va_Pc [.ref (E.2.1 306), .ref (E.2.1 (8 * j))] (PU E I)) (va_Qi Q (BU E) E.2.2.2.1) 0 0 E.2.2.2.1 :=
  ofWalk [.ref (E.2.1 306), .ref (E.2.1 (8 * j))] (by decide) tw_c_X2_firstInfant (Nat.le_of_ble_eq_true rfl) (fun p e s m below meth c ls X hp hl => w_X2_firstInfant_0 X hj _ _ _ _ h hp hl)
abbrev rmX2_fewestCounters : Room := { frames := 5, cells := 0, slots := 0, locals := 112 }
theorem vf_X2_fewestCounters : VF yX2_fewestCounters RX2 cX2_fewestCounters 4 (some .int) 1 := ⟨tw_in_X2, tw_im_X2_fewestCounters, tw_se_X2_fewestCounters, tw_c_X2_fewestCounters, by decide, by decide, by decide +kernel⟩
def wp_X2_fewestCounters_70 (j : Nat) (Q : Int32 → II → Prop) (k5 : Int32 → Int32 → II → Prop) (x2 : Int32) (x3 : Int32) (I : II) : Prop := (k5 x2 (x3 + (nI 1)) I)
set_option maxHeartbeats 4000000 in
set_option maxRecDepth 100000 in
theorem w_X2_fewestCounters_70 {E : EE} {p : Program} {l : Launch} {e : Env} {s : State} {m : MethodId} {args : Array Value} {below : List Frame} {meth : Method} {c : Code} {Q : Int32 → II → Prop} {k5 : Int32 → Int32 → II → Prop} (X : CX E p s m args meth c cX2_fewestCounters 4 (some .int) RX2) {j : Nat} (hj : j < 37) (K5 : ∀ (x2 : Int32) (x3 : Int32) (I : II) (H : Heap) (locs : List Loc) (ls : Array Slot), k5 x2 x3 I → PP E s H locs I → lv_has ls 4 [(0, .ref (E.2.1 306)), (1, .ref (E.2.1 (8 * j))), (2, .int x2), (3, .int x3)] → W p l e rmX2_fewestCounters s m args below meth c H locs 0 0 (MQ below (va_Qi Q (BU E) E.2.2.2.1) args s 0 0 E.2.2.2.1) (F0 m 5 ls [])) : ∀ (x2 : Int32) (x3 : Int32) (I : II) (H : Heap) (locs : List Loc) (ls : Array Slot), wp_X2_fewestCounters_70 j Q k5 x2 x3 I → PP E s H locs I → lv_has ls 4 [(0, .ref (E.2.1 306)), (1, .ref (E.2.1 (8 * j))), (2, .int x2), (3, .int x3)] → W p l e rmX2_fewestCounters s m args below meth c H locs 0 0 (MQ below (va_Qi Q (BU E) E.2.2.2.1) args s 0 0 E.2.2.2.1) (F0 m 70 ls []) := by
  obtain ⟨⟨hx, hb, hml, hown, hts⟩, hr, hlk, hK, hST, hN⟩ := id X
  intro x2 x3 I H locs ls h hp hl
  unfold wp_X2_fewestCounters_70 at h
  refine lv_iinc (v := (x3 + (nI 1))) (lv' := [(3, .int (x3 + (nI 1))), (0, .ref (E.2.1 306)), (1, .ref (E.2.1 (8 * j))), (2, .int x2)]) hx hb dX2_fewestCounters_70 hl (k := 3) rfl rfl (by decide) rfl (fun ls hl => ?_)
  refine lv_goto (tgt := 5) hx hb dX2_fewestCounters_73 (by decide) ?_
  exact K5 _ _ _ _ _ _ h hp (lv_sub hl [1, 2, 3, 0] rfl)
def wp_X2_fewestCounters_41 (j : Nat) (Q : Int32 → II → Prop) (k5 : Int32 → Int32 → II → Prop) (x2 : Int32) (x3 : Int32) (I : II) : Prop := (wp_X1_takeAll 2 j I (fun I1 => (∀ I3 : II, I3 = su I1 (8 * 2) 3 x3 → (wp_X2_ghostPaidAhead I3 (fun r6 I5 => ((¬ r6 = (I5 (8 * j) 7) → (wp_X2_fewestCounters_70 j Q k5 x2 x3 I5)) ∧ (r6 = (I5 (8 * j) 7) → (wp_X2_fewestCounters_70 j Q k5 x3 x3 I5))))))))
set_option maxHeartbeats 4000000 in
set_option maxRecDepth 100000 in
theorem w_X2_fewestCounters_41 {E : EE} {p : Program} {l : Launch} {e : Env} {s : State} {m : MethodId} {args : Array Value} {below : List Frame} {meth : Method} {c : Code} {Q : Int32 → II → Prop} {k5 : Int32 → Int32 → II → Prop} (X : CX E p s m args meth c cX2_fewestCounters 4 (some .int) RX2) {j : Nat} (hj : j < 37) (K5 : ∀ (x2 : Int32) (x3 : Int32) (I : II) (H : Heap) (locs : List Loc) (ls : Array Slot), k5 x2 x3 I → PP E s H locs I → lv_has ls 4 [(0, .ref (E.2.1 306)), (1, .ref (E.2.1 (8 * j))), (2, .int x2), (3, .int x3)] → W p l e rmX2_fewestCounters s m args below meth c H locs 0 0 (MQ below (va_Qi Q (BU E) E.2.2.2.1) args s 0 0 E.2.2.2.1) (F0 m 5 ls [])) : ∀ (x2 : Int32) (x3 : Int32) (I : II) (H : Heap) (locs : List Loc) (ls : Array Slot), wp_X2_fewestCounters_41 j Q k5 x2 x3 I → PP E s H locs I → lv_has ls 4 [(0, .ref (E.2.1 306)), (1, .ref (E.2.1 (8 * j))), (2, .int x2), (3, .int x3)] → W p l e rmX2_fewestCounters s m args below meth c H locs 0 0 (MQ below (va_Qi Q (BU E) E.2.2.2.1) args s 0 0 E.2.2.2.1) (F0 m 41 ls []) := by
  obtain ⟨⟨hx, hb, hml, hown, hts⟩, hr, hlk, hK, hST, hN⟩ := id X
  intro x2 x3 I H locs ls h hp hl
  unfold wp_X2_fewestCounters_41 at h
  refine lv_aload_n hx hb dX2_fewestCounters_41 rfl (lv_at hl 0 rfl) ?_
  refine f_X2_12 X hp dX2_fewestCounters_42 ?_
  refine lv_aload_n hx hb dX2_fewestCounters_45 rfl (lv_at hl 1 rfl) ?_
  refine kv (kV (As := [.ref (E.2.1 (8 * j))]) (rest := []) X hp (C_X1_takeAll (by decide) hj h) tw_ml_X2_22 vf_X1_takeAll ⟨rfl, rfl, Nat.le_of_ble_eq_true rfl, Nat.le_of_ble_eq_true rfl⟩ (pr_rcvb X hp (by decide)) rfl hl.1 rfl (Nat.le_of_ble_eq_true rfl) dX2_fewestCounters_46) hp (fun I1 H locs h hp => ?_)
  refine lv_aload_n hx hb dX2_fewestCounters_49 rfl (lv_at hl 0 rfl) ?_
  refine f_X2_12 X hp dX2_fewestCounters_50 ?_
  refine lv_iload_n hx hb dX2_fewestCounters_53 rfl (lv_at hl 3 rfl) ?_
  refine g_X2_53 X hp (by decide) dX2_fewestCounters_54 (fun H locs hp => ?_)
  obtain ⟨I3, e4⟩ : ∃ y, y = su I1 (8 * 2) 3 x3 := ⟨_, rfl⟩
  have hp : PP E s H locs I3 := by rw [e4]; exact hp
  have h := h I3 e4
  refine lv_aload_n hx hb dX2_fewestCounters_57 rfl (lv_at hl 0 rfl) ?_
  refine ki (kV (As := []) (rest := []) X hp (C_X2_ghostPaidAhead  h) tw_ml_X2_35 vf_X2_ghostPaidAhead ⟨rfl, rfl, Nat.le_of_ble_eq_true rfl, Nat.le_of_ble_eq_true rfl⟩ (pr_rcv X hp (k := 306) (by decide) (ob_306 _) (q := (RX2, TX2, 4)) rfl) rfl hl.1 rfl (Nat.le_of_ble_eq_true rfl) dX2_fewestCounters_58) hp (fun r6 I5 H locs h hp => ?_)
  refine lv_aload_n hx hb dX2_fewestCounters_61 rfl (lv_at hl 1 rfl) ?_
  refine f_X2_38 X hp hj dX2_fewestCounters_62 ?_
  refine lv_icmp_ne (tgt := 70) hx hb dX2_fewestCounters_65 (by decide) (fun c7 => ?_) (fun c7 => ?_)
  · have h := h.1 c7
    exact w_X2_fewestCounters_70 X hj K5 _ _ _ _ _ _ h hp (lv_sub hl [0, 1, 2, 3] rfl)
  · have h := h.2 c7
    refine lv_iload_n hx hb dX2_fewestCounters_68 rfl (lv_at hl 3 rfl) ?_
    refine lv_istore_n (lv' := [(2, .int x3), (0, .ref (E.2.1 306)), (1, .ref (E.2.1 (8 * j))), (3, .int x3)]) hx hb dX2_fewestCounters_69 rfl hl (by decide) rfl (fun ls hl => ?_)
    exact w_X2_fewestCounters_70 X hj K5 _ _ _ _ _ _ h hp (lv_sub hl [1, 2, 0, 3] rfl)
def wp_X2_fewestCounters_5 (j : Nat) (Q : Int32 → II → Prop) (k76 : Int32 → II → Prop) : Nat → Int32 → Int32 → II → Prop
  | 0, _, _, _ => False
  | n + 1, x2, x3, I => (((nI 16) ≤ x3 → (k76 x2 I)) ∧ (¬ (nI 16) ≤ x3 → ((((nI 1) <<< ((I (8 * j) 2) &&& 31)) ≤ x3 → (k76 x2 I)) ∧ (¬ ((nI 1) <<< ((I (8 * j) 2) &&& 31)) ≤ x3 → ((x2 = (-nI 1000000) → (wp_X2_fewestCounters_41 j Q (fun x2 x3 I => wp_X2_fewestCounters_5 j Q k76 n x2 x3 I) x2 x3 I)) ∧ (¬ x2 = (-nI 1000000) → (wp_J6_bitCount_0f7a4 x3 I (fun r5 I4 => (wp_J6_bitCount_0f7a4 x2 I4 (fun r7 I6 => ((r5 < r7 → (wp_X2_fewestCounters_41 j Q (fun x2 x3 I => wp_X2_fewestCounters_5 j Q k76 n x2 x3 I) x2 x3 I6)) ∧ (¬ r5 < r7 → (wp_X2_fewestCounters_70 j Q (fun x2 x3 I => wp_X2_fewestCounters_5 j Q k76 n x2 x3 I) x2 x3 I6)))))))))))))
set_option maxHeartbeats 4000000 in
set_option maxRecDepth 100000 in
theorem w_X2_fewestCounters_5 {E : EE} {p : Program} {l : Launch} {e : Env} {s : State} {m : MethodId} {args : Array Value} {below : List Frame} {meth : Method} {c : Code} {Q : Int32 → II → Prop} {k76 : Int32 → II → Prop} (X : CX E p s m args meth c cX2_fewestCounters 4 (some .int) RX2) {j : Nat} (hj : j < 37) (K76 : ∀ (x2 : Int32) (I : II) (H : Heap) (locs : List Loc) (ls : Array Slot), k76 x2 I → PP E s H locs I → lv_has ls 4 [(2, .int x2)] → W p l e rmX2_fewestCounters s m args below meth c H locs 0 0 (MQ below (va_Qi Q (BU E) E.2.2.2.1) args s 0 0 E.2.2.2.1) (F0 m 76 ls [])) : ∀ (n : Nat) (x2 : Int32) (x3 : Int32) (I : II) (H : Heap) (locs : List Loc) (ls : Array Slot), wp_X2_fewestCounters_5 j Q k76 n x2 x3 I → PP E s H locs I → lv_has ls 4 [(0, .ref (E.2.1 306)), (1, .ref (E.2.1 (8 * j))), (2, .int x2), (3, .int x3)] → W p l e rmX2_fewestCounters s m args below meth c H locs 0 0 (MQ below (va_Qi Q (BU E) E.2.2.2.1) args s 0 0 E.2.2.2.1) (F0 m 5 ls []) := by
  obtain ⟨⟨hx, hb, hml, hown, hts⟩, hr, hlk, hK, hST, hN⟩ := id X
  intro n
  induction n with
  | zero =>
    intro x2 x3 I H locs ls h hp hl
    exact False.elim h
  | succ n ih =>
    intro x2 x3 I H locs ls h hp hl
    rw [wp_X2_fewestCounters_5.eq_2] at h
    refine lv_iload_n hx hb dX2_fewestCounters_5 rfl (lv_at hl 3 rfl) ?_
    refine lv_bipush (v := (nI 16)) hx hb dX2_fewestCounters_6 (by decide) ?_
    refine lv_icmp_ge (tgt := 76) hx hb dX2_fewestCounters_8 (by decide) (fun c1 => ?_) (fun c1 => ?_)
    · have h := h.1 c1
      exact K76 _ _ _ _ _ h hp (lv_sub hl [2] rfl)
    · have h := h.2 c1
      refine lv_iload_n hx hb dX2_fewestCounters_11 rfl (lv_at hl 3 rfl) ?_
      refine lv_iconst (v := (nI 1)) hx hb dX2_fewestCounters_12 (by decide) ?_
      refine lv_aload_n hx hb dX2_fewestCounters_13 rfl (lv_at hl 1 rfl) ?_
      refine f_X2_45 X hp hj dX2_fewestCounters_14 ?_
      refine lv_ishl hx hb dX2_fewestCounters_17 ?_
      refine lv_icmp_ge (tgt := 76) hx hb dX2_fewestCounters_18 (by decide) (fun c2 => ?_) (fun c2 => ?_)
      · have h := h.1 c2
        exact K76 _ _ _ _ _ h hp (lv_sub hl [2] rfl)
      · have h := h.2 c2
        refine lv_iload_n hx hb dX2_fewestCounters_21 rfl (lv_at hl 2 rfl) ?_
        refine lv_ldc (v := (-nI 1000000)) hx hb hown (hts _ tw_k_X2_34) dX2_fewestCounters_22 ?_
        refine lv_icmp_eq (tgt := 41) hx hb dX2_fewestCounters_24 (by decide) (fun c3 => ?_) (fun c3 => ?_)
        · have h := h.1 c3
          exact w_X2_fewestCounters_41 X hj ih _ _ _ _ _ _ h hp (lv_sub hl [0, 1, 2, 3] rfl)
        · have h := h.2 c3
          refine lv_iload_n hx hb dX2_fewestCounters_27 rfl (lv_at hl 3 rfl) ?_
          refine ki (kS (As := [.int x3]) (rest := []) X hp (C_J6_bitCount_0f7a4  h) tw_ml_X2_48 sf_J6_bitCount_0f7a4 ⟨rfl, rfl, Nat.le_of_ble_eq_true rfl, Nat.le_of_ble_eq_true rfl⟩ rfl hl.1 rfl (Nat.le_of_ble_eq_true rfl) dX2_fewestCounters_28) hp (fun r5 I4 H locs h hp => ?_)
          refine lv_iload_n hx hb dX2_fewestCounters_31 rfl (lv_at hl 2 rfl) ?_
          refine ki (kS (As := [.int x2]) (rest := [.int r5]) X hp (C_J6_bitCount_0f7a4  h) tw_ml_X2_48 sf_J6_bitCount_0f7a4 ⟨rfl, rfl, Nat.le_of_ble_eq_true rfl, Nat.le_of_ble_eq_true rfl⟩ rfl hl.1 rfl (Nat.le_of_ble_eq_true rfl) dX2_fewestCounters_32) hp (fun r7 I6 H locs h hp => ?_)
          refine lv_icmp_lt (tgt := 41) hx hb dX2_fewestCounters_35 (by decide) (fun c8 => ?_) (fun c8 => ?_)
          · have h := h.1 c8
            exact w_X2_fewestCounters_41 X hj ih _ _ _ _ _ _ h hp (lv_sub hl [0, 1, 2, 3] rfl)
          · have h := h.2 c8
            refine lv_goto (tgt := 70) hx hb dX2_fewestCounters_38 (by decide) ?_
            exact w_X2_fewestCounters_70 X hj ih _ _ _ _ _ _ h hp (lv_sub hl [0, 1, 2, 3] rfl)
def wp_X2_fewestCounters (j : Nat) (I : II) (Q : Int32 → II → Prop) : Prop := (∃ n51, wp_X2_fewestCounters_5 j Q (fun x2 I => (Q x2 I)) n51 (-nI 1000000) (nI 0) I)
set_option maxHeartbeats 4000000 in
set_option maxRecDepth 100000 in
theorem w_X2_fewestCounters_0 {E : EE} {p : Program} {l : Launch} {e : Env} {s : State} {m : MethodId} {args : Array Value} {below : List Frame} {meth : Method} {c : Code} {Q : Int32 → II → Prop} (X : CX E p s m args meth c cX2_fewestCounters 4 (some .int) RX2) {j : Nat} (hj : j < 37) : ∀ (I : II) (H : Heap) (locs : List Loc) (ls : Array Slot), wp_X2_fewestCounters j I Q → PP E s H locs I → lv_has ls 4 [(0, .ref (E.2.1 306)), (1, .ref (E.2.1 (8 * j)))] → W p l e rmX2_fewestCounters s m args below meth c H locs 0 0 (MQ below (va_Qi Q (BU E) E.2.2.2.1) args s 0 0 E.2.2.2.1) (F0 m 0 ls []) := by
  obtain ⟨⟨hx, hb, hml, hown, hts⟩, hr, hlk, hK, hST, hN⟩ := id X
  intro I H locs ls h hp hl
  unfold wp_X2_fewestCounters at h
  refine lv_ldc (v := (-nI 1000000)) hx hb hown (hts _ tw_k_X2_34) dX2_fewestCounters_0 ?_
  refine lv_istore_n (lv' := [(2, .int (-nI 1000000)), (0, .ref (E.2.1 306)), (1, .ref (E.2.1 (8 * j)))]) hx hb dX2_fewestCounters_2 rfl hl (by decide) rfl (fun ls hl => ?_)
  refine lv_iconst (v := (nI 0)) hx hb dX2_fewestCounters_3 (by decide) ?_
  refine lv_istore_n (lv' := [(3, .int (nI 0)), (2, .int (-nI 1000000)), (0, .ref (E.2.1 306)), (1, .ref (E.2.1 (8 * j)))]) hx hb dX2_fewestCounters_4 rfl hl (by decide) rfl (fun ls hl => ?_)
  obtain ⟨n51, h⟩ := h
  refine w_X2_fewestCounters_5 X hj ?_ n51 _ _ _ _ _ _ h hp (lv_sub hl [2, 3, 1, 0] rfl)
  · intro x2 I H locs ls h hp hl
    refine lv_iload_n hx hb dX2_fewestCounters_76 rfl (lv_at hl 0 rfl) ?_
    exact rt_i X hp h dX2_fewestCounters_77
set_option maxRecDepth 100000 in
theorem C_X2_fewestCounters {E : EE} {l : Launch} {j : Nat} (hj : j < 37) {I : II} {Q : Int32 → II → Prop} (h : wp_X2_fewestCounters j I Q) : Met l yX2_fewestCounters (Cond.code yX2_fewestCounters cX2_fewestCounters 4 (some .int) :: lwT) rmX2_fewestCounters (va_Pc [.ref (E.2.1 306), .ref (E.2.1 (8 * j))] (PU E I)) (va_Qi Q (BU E) E.2.2.2.1) 0 0 E.2.2.2.1 :=
  ofWalk [.ref (E.2.1 306), .ref (E.2.1 (8 * j))] (by decide) tw_c_X2_fewestCounters (Nat.le_of_ble_eq_true rfl) (fun p e s m below meth c ls X hp hl => w_X2_fewestCounters_0 X hj _ _ _ _ h hp hl)
abbrev rmX2_watch : Room := { frames := 3, cells := 0, slots := 0, locals := 65 }
theorem vf_X2_watch : VF yX2_watch RX2 cX2_watch 7 none 5 := ⟨tw_in_X2, tw_im_X2_watch, tw_se_X2_watch, tw_c_X2_watch, by decide, by decide, by decide +kernel⟩
def wp_X2_watch_19 (Q : II → Prop) (k51 : II → Prop) : Nat → Int32 → Int32 → Int32 → II → Prop
  | 0, _, _, _, _ => False
  | n + 1, x3, x4, x6, I => (((I 306 2) ≤ x6 → (k51 I)) ∧ (¬ (I 306 2) ≤ x6 → (wp_X4_itemAt x3 (x4 + x6) I (fun r3 I2 => (vp_in x6 12 ∧ ∀ I5 : II, I5 = su I2 307 x6.toNatClampNeg r3 → (wp_X2_watch_19 Q k51 n x3 x4 (x6 + (nI 1)) I5))))))
set_option maxHeartbeats 4000000 in
set_option maxRecDepth 100000 in
theorem w_X2_watch_19 {E : EE} {p : Program} {l : Launch} {e : Env} {s : State} {m : MethodId} {args : Array Value} {below : List Frame} {meth : Method} {c : Code} {Q : II → Prop} {k51 : II → Prop} (X : CX E p s m args meth c cX2_watch 7 none RX2) (K51 : ∀ (I : II) (H : Heap) (locs : List Loc) (ls : Array Slot), k51 I → PP E s H locs I → lv_has ls 7 [] → W p l e rmX2_watch s m args below meth c H locs 0 0 (MQ below (va_Qv Q (BU E) E.2.2.2.1) args s 0 0 E.2.2.2.1) (F0 m 51 ls [])) : ∀ (n : Nat) (x3 : Int32) (x4 : Int32) (x6 : Int32) (I : II) (H : Heap) (locs : List Loc) (ls : Array Slot), wp_X2_watch_19 Q k51 n x3 x4 x6 I → PP E s H locs I → lv_has ls 7 [(0, .ref (E.2.1 306)), (2, .ref (E.2.1 297)), (3, .int x3), (4, .int x4), (6, .int x6)] → W p l e rmX2_watch s m args below meth c H locs 0 0 (MQ below (va_Qv Q (BU E) E.2.2.2.1) args s 0 0 E.2.2.2.1) (F0 m 19 ls []) := by
  obtain ⟨⟨hx, hb, hml, hown, hts⟩, hr, hlk, hK, hST, hN⟩ := id X
  intro n
  induction n with
  | zero =>
    intro x3 x4 x6 I H locs ls h hp hl
    exact False.elim h
  | succ n ih =>
    intro x3 x4 x6 I H locs ls h hp hl
    rw [wp_X2_watch_19.eq_2] at h
    refine lv_iload hx hb dX2_watch_19 (lv_at hl 4 rfl) ?_
    refine lv_aload_n hx hb dX2_watch_21 rfl (lv_at hl 0 rfl) ?_
    refine f_X2_65 X hp dX2_watch_22 ?_
    refine lv_icmp_ge (tgt := 51) hx hb dX2_watch_25 (by decide) (fun c1 => ?_) (fun c1 => ?_)
    · have h := h.1 c1
      exact K51 _ _ _ _ h hp (lv_sub hl [] rfl)
    · have h := h.2 c1
      refine lv_aload_n hx hb dX2_watch_28 rfl (lv_at hl 0 rfl) ?_
      refine f_X2_18 X hp dX2_watch_29 ?_
      refine lv_iload hx hb dX2_watch_32 (lv_at hl 4 rfl) ?_
      refine lv_aload_n hx hb dX2_watch_34 rfl (lv_at hl 1 rfl) ?_
      refine lv_iload_n hx hb dX2_watch_35 rfl (lv_at hl 2 rfl) ?_
      refine lv_iload hx hb dX2_watch_36 (lv_at hl 3 rfl) ?_
      refine lv_iload hx hb dX2_watch_38 (lv_at hl 4 rfl) ?_
      refine lv_iadd hx hb dX2_watch_40 ?_
      refine ki (kV (As := [.int x3, .int (x4 + x6)]) (rest := [.int x6, .ref (E.2.1 307)]) X hp (C_X4_itemAt  h) tw_ml_X2_68 vf_X4_itemAt ⟨rfl, rfl, Nat.le_of_ble_eq_true rfl, Nat.le_of_ble_eq_true rfl⟩ (pr_rcv X hp (k := 297) (by decide) (ob_297 _) (q := (RX4, TX4, 3)) rfl) rfl hl.1 rfl (Nat.le_of_ble_eq_true rfl) dX2_watch_41) hp (fun r3 I2 H locs h hp => ?_)
      have hv4 := h.1
      have h := h.2
      refine as_i X hp ar_s307 hv4 dX2_watch_44 (fun H locs hp => ?_)
      obtain ⟨I5, e6⟩ : ∃ y, y = su I2 307 x6.toNatClampNeg r3 := ⟨_, rfl⟩
      have hp : PP E s H locs I5 := by rw [e6]; exact hp
      have h := h I5 e6
      refine lv_iinc (v := (x6 + (nI 1))) (lv' := [(6, .int (x6 + (nI 1))), (0, .ref (E.2.1 306)), (2, .ref (E.2.1 297)), (3, .int x3), (4, .int x4)]) hx hb dX2_watch_45 hl (k := 4) rfl rfl (by decide) rfl (fun ls hl => ?_)
      refine lv_goto (tgt := 19) hx hb dX2_watch_48 (by decide) ?_
      exact ih _ _ _ _ _ _ _ h hp (lv_sub hl [1, 2, 3, 4, 0] rfl)
def wp_X2_watch (x1 : Int32) (x3 : Int32) (x4 : Int32) (x5 : Int32) (I : II) (Q : II → Prop) : Prop := (∀ I1 : II, I1 = su I 306 3 x1 → (∀ I3 : II, I3 = su I1 306 2 (if (nI 12) < x5 then (nI 12) else x5) → (∃ n55, wp_X2_watch_19 Q (fun I => (Q I)) n55 x3 x4 (nI 0) I3)))
set_option maxHeartbeats 4000000 in
set_option maxRecDepth 100000 in
theorem w_X2_watch_0 {E : EE} {p : Program} {l : Launch} {e : Env} {s : State} {m : MethodId} {args : Array Value} {below : List Frame} {meth : Method} {c : Code} {Q : II → Prop} (X : CX E p s m args meth c cX2_watch 7 none RX2) : ∀ (x1 : Int32) (x3 : Int32) (x4 : Int32) (x5 : Int32) (I : II) (H : Heap) (locs : List Loc) (ls : Array Slot), wp_X2_watch x1 x3 x4 x5 I Q → PP E s H locs I → lv_has ls 7 [(0, .ref (E.2.1 306)), (1, .int x1), (2, .ref (E.2.1 297)), (3, .int x3), (4, .int x4), (5, .int x5)] → W p l e rmX2_watch s m args below meth c H locs 0 0 (MQ below (va_Qv Q (BU E) E.2.2.2.1) args s 0 0 E.2.2.2.1) (F0 m 0 ls []) := by
  obtain ⟨⟨hx, hb, hml, hown, hts⟩, hr, hlk, hK, hST, hN⟩ := id X
  intro x1 x3 x4 x5 I H locs ls h hp hl
  unfold wp_X2_watch at h
  refine lv_aload_n hx hb dX2_watch_0 rfl (lv_at hl 0 rfl) ?_
  refine lv_iload_n hx hb dX2_watch_1 rfl (lv_at hl 1 rfl) ?_
  refine g_X2_56 X hp dX2_watch_2 (fun H locs hp => ?_)
  obtain ⟨I1, e2⟩ : ∃ y, y = su I 306 3 x1 := ⟨_, rfl⟩
  have hp : PP E s H locs I1 := by rw [e2]; exact hp
  have h := h I1 e2
  refine lv_aload_n hx hb dX2_watch_5 rfl (lv_at hl 0 rfl) ?_
  refine lv_iload hx hb dX2_watch_6 (lv_at hl 5 rfl) ?_
  refine lv_bipush (v := (nI 12)) hx hb dX2_watch_8 (by decide) ?_
  refine mn_i X tw_ml_X2_59 hl.1 ⟨Nat.le_of_ble_eq_true rfl, Nat.le_of_ble_eq_true rfl⟩ dX2_watch_10 ?_
  refine g_X2_65 X hp dX2_watch_13 (fun H locs hp => ?_)
  obtain ⟨I3, e4⟩ : ∃ y, y = su I1 306 2 (if (nI 12) < x5 then (nI 12) else x5) := ⟨_, rfl⟩
  have hp : PP E s H locs I3 := by rw [e4]; exact hp
  have h := h I3 e4
  refine lv_iconst (v := (nI 0)) hx hb dX2_watch_16 (by decide) ?_
  refine lv_istore (lv' := [(6, .int (nI 0)), (0, .ref (E.2.1 306)), (1, .int x1), (2, .ref (E.2.1 297)), (3, .int x3), (4, .int x4), (5, .int x5)]) hx hb dX2_watch_17 hl (by decide) rfl (fun ls hl => ?_)
  obtain ⟨n55, h⟩ := h
  refine w_X2_watch_19 X ?_ n55 _ _ _ _ _ _ _ h hp (lv_sub hl [1, 3, 4, 5, 0] rfl)
  · intro I H locs ls h hp hl
    exact rt_v X hp h dX2_watch_51
set_option maxRecDepth 100000 in
theorem C_X2_watch {E : EE} {l : Launch} {x1 : Int32} {x3 : Int32} {x4 : Int32} {x5 : Int32} {I : II} {Q : II → Prop} (h : wp_X2_watch x1 x3 x4 x5 I Q) : Met l yX2_watch (Cond.code yX2_watch cX2_watch 7 none :: lwT) rmX2_watch (va_Pc [.ref (E.2.1 306), .int x1, .ref (E.2.1 297), .int x3, .int x4, .int x5] (PU E I)) (va_Qv Q (BU E) E.2.2.2.1) 0 0 E.2.2.2.1 :=
  ofWalk [.ref (E.2.1 306), .int x1, .ref (E.2.1 297), .int x3, .int x4, .int x5] (by decide) tw_c_X2_watch (Nat.le_of_ble_eq_true rfl) (fun p e s m below meth c ls X hp hl => w_X2_watch_0 X _ _ _ _ _ _ _ _ h hp hl)
abbrev rmX2_ghostIsAsTold : Room := { frames := 4, cells := 0, slots := 0, locals := 90 }
theorem vf_X2_ghostIsAsTold : VF yX2_ghostIsAsTold RX2 cX2_ghostIsAsTold 2 (some .boolean) 0 := ⟨tw_in_X2, tw_im_X2_ghostIsAsTold, tw_se_X2_ghostIsAsTold, tw_c_X2_ghostIsAsTold, by decide, by decide, by decide +kernel⟩
def wp_X2_ghostIsAsTold_2 (Q : Int32 → II → Prop) (k59 : II → Prop) (k67 : II → Prop) : Nat → Int32 → II → Prop
  | 0, _, _ => False
  | n + 1, x1, I => (((I 306 2) ≤ x1 → (k67 I)) ∧ (¬ (I 306 2) ≤ x1 → (((nI 12) ≤ x1 → (k67 I)) ∧ (¬ (nI 12) ≤ x1 → (wp_X1_passTurn 2 I (fun r4 I3 => (wp_X1_hasTeller 2 (I3 306 3) I3 (fun r6 I5 => ((r6 = 0 → (k59 I5)) ∧ (¬ r6 = 0 → (vp_in (I5 306 3) 4 ∧ (vp_in x1 12 ∧ (((I5 (8 * 2 + 4) (I5 306 3).toNatClampNeg) = (I5 307 x1.toNatClampNeg) → (wp_X2_ghostIsAsTold_2 Q k59 k67 n (x1 + (nI 1)) I5)) ∧ (¬ (I5 (8 * 2 + 4) (I5 306 3).toNatClampNeg) = (I5 307 x1.toNatClampNeg) → (k59 I5)))))))))))))))
set_option maxHeartbeats 4000000 in
set_option maxRecDepth 100000 in
theorem w_X2_ghostIsAsTold_2 {E : EE} {p : Program} {l : Launch} {e : Env} {s : State} {m : MethodId} {args : Array Value} {below : List Frame} {meth : Method} {c : Code} {Q : Int32 → II → Prop} {k59 : II → Prop} {k67 : II → Prop} (X : CX E p s m args meth c cX2_ghostIsAsTold 2 (some .boolean) RX2) (K59 : ∀ (I : II) (H : Heap) (locs : List Loc) (ls : Array Slot), k59 I → PP E s H locs I → lv_has ls 2 [] → W p l e rmX2_ghostIsAsTold s m args below meth c H locs 0 0 (MQ below (va_Qi Q (BU E) E.2.2.2.1) args s 0 0 E.2.2.2.1) (F0 m 59 ls [])) (K67 : ∀ (I : II) (H : Heap) (locs : List Loc) (ls : Array Slot), k67 I → PP E s H locs I → lv_has ls 2 [] → W p l e rmX2_ghostIsAsTold s m args below meth c H locs 0 0 (MQ below (va_Qi Q (BU E) E.2.2.2.1) args s 0 0 E.2.2.2.1) (F0 m 67 ls [])) : ∀ (n : Nat) (x1 : Int32) (I : II) (H : Heap) (locs : List Loc) (ls : Array Slot), wp_X2_ghostIsAsTold_2 Q k59 k67 n x1 I → PP E s H locs I → lv_has ls 2 [(0, .ref (E.2.1 306)), (1, .int x1)] → W p l e rmX2_ghostIsAsTold s m args below meth c H locs 0 0 (MQ below (va_Qi Q (BU E) E.2.2.2.1) args s 0 0 E.2.2.2.1) (F0 m 2 ls []) := by
  obtain ⟨⟨hx, hb, hml, hown, hts⟩, hr, hlk, hK, hST, hN⟩ := id X
  intro n
  induction n with
  | zero =>
    intro x1 I H locs ls h hp hl
    exact False.elim h
  | succ n ih =>
    intro x1 I H locs ls h hp hl
    rw [wp_X2_ghostIsAsTold_2.eq_2] at h
    refine lv_iload_n hx hb dX2_ghostIsAsTold_2 rfl (lv_at hl 1 rfl) ?_
    refine lv_aload_n hx hb dX2_ghostIsAsTold_3 rfl (lv_at hl 0 rfl) ?_
    refine f_X2_65 X hp dX2_ghostIsAsTold_4 ?_
    refine lv_icmp_ge (tgt := 67) hx hb dX2_ghostIsAsTold_7 (by decide) (fun c1 => ?_) (fun c1 => ?_)
    · have h := h.1 c1
      exact K67 _ _ _ _ h hp (lv_sub hl [] rfl)
    · have h := h.2 c1
      refine lv_iload_n hx hb dX2_ghostIsAsTold_10 rfl (lv_at hl 1 rfl) ?_
      refine lv_bipush (v := (nI 12)) hx hb dX2_ghostIsAsTold_11 (by decide) ?_
      refine lv_icmp_ge (tgt := 67) hx hb dX2_ghostIsAsTold_13 (by decide) (fun c2 => ?_) (fun c2 => ?_)
      · have h := h.1 c2
        exact K67 _ _ _ _ h hp (lv_sub hl [] rfl)
      · have h := h.2 c2
        refine lv_aload_n hx hb dX2_ghostIsAsTold_16 rfl (lv_at hl 0 rfl) ?_
        refine f_X2_12 X hp dX2_ghostIsAsTold_17 ?_
        refine ki (kV (As := []) (rest := []) X hp (C_X1_passTurn (by decide) h) tw_ml_X2_26 vf_X1_passTurn ⟨rfl, rfl, Nat.le_of_ble_eq_true rfl, Nat.le_of_ble_eq_true rfl⟩ (pr_rcvb X hp (by decide)) rfl hl.1 rfl (Nat.le_of_ble_eq_true rfl) dX2_ghostIsAsTold_20) hp (fun r4 I3 H locs h hp => ?_)
        refine lv_pop hx hb dX2_ghostIsAsTold_23 rfl ?_
        refine lv_aload_n hx hb dX2_ghostIsAsTold_24 rfl (lv_at hl 0 rfl) ?_
        refine f_X2_12 X hp dX2_ghostIsAsTold_25 ?_
        refine lv_aload_n hx hb dX2_ghostIsAsTold_28 rfl (lv_at hl 0 rfl) ?_
        refine f_X2_56 X hp dX2_ghostIsAsTold_29 ?_
        refine ki (kV (As := [.int (I3 306 3)]) (rest := []) X hp (C_X1_hasTeller (by decide) h) tw_ml_X2_73 vf_X1_hasTeller ⟨rfl, rfl, Nat.le_of_ble_eq_true rfl, Nat.le_of_ble_eq_true rfl⟩ (pr_rcvb X hp (by decide)) rfl hl.1 rfl (Nat.le_of_ble_eq_true rfl) dX2_ghostIsAsTold_32) hp (fun r6 I5 H locs h hp => ?_)
        refine lv_if_eq (tgt := 59) hx hb dX2_ghostIsAsTold_35 (by decide) (fun c7 => ?_) (fun c7 => ?_)
        · have h := h.1 c7
          exact K59 _ _ _ _ h hp (lv_sub hl [] rfl)
        · have h := h.2 c7
          refine lv_aload_n hx hb dX2_ghostIsAsTold_38 rfl (lv_at hl 0 rfl) ?_
          refine f_X2_12 X hp dX2_ghostIsAsTold_39 ?_
          refine f_X2_77 X hp (by decide) dX2_ghostIsAsTold_42 ?_
          refine lv_aload_n hx hb dX2_ghostIsAsTold_45 rfl (lv_at hl 0 rfl) ?_
          refine f_X2_56 X hp dX2_ghostIsAsTold_46 ?_
          have hv8 := h.1
          have h := h.2
          refine al_i X hp (ar_4 (by decide)) hv8 dX2_ghostIsAsTold_49 ?_
          refine lv_aload_n hx hb dX2_ghostIsAsTold_50 rfl (lv_at hl 0 rfl) ?_
          refine f_X2_18 X hp dX2_ghostIsAsTold_51 ?_
          refine lv_iload_n hx hb dX2_ghostIsAsTold_54 rfl (lv_at hl 1 rfl) ?_
          have hv9 := h.1
          have h := h.2
          refine al_i X hp ar_s307 hv9 dX2_ghostIsAsTold_55 ?_
          refine lv_icmp_eq (tgt := 61) hx hb dX2_ghostIsAsTold_56 (by decide) (fun c10 => ?_) (fun c10 => ?_)
          · have h := h.1 c10
            refine lv_iinc (v := (x1 + (nI 1))) (lv' := [(1, .int (x1 + (nI 1))), (0, .ref (E.2.1 306))]) hx hb dX2_ghostIsAsTold_61 hl (k := 1) rfl rfl (by decide) rfl (fun ls hl => ?_)
            refine lv_goto (tgt := 2) hx hb dX2_ghostIsAsTold_64 (by decide) ?_
            exact ih _ _ _ _ _ h hp (lv_sub hl [1, 0] rfl)
          · have h := h.2 c10
            exact K59 _ _ _ _ h hp (lv_sub hl [] rfl)
def wp_X2_ghostIsAsTold (I : II) (Q : Int32 → II → Prop) : Prop := (∃ n101, wp_X2_ghostIsAsTold_2 Q (fun I => (Q (nI 0) I)) (fun I => (Q (nI 1) I)) n101 (nI 0) I)
set_option maxHeartbeats 4000000 in
set_option maxRecDepth 100000 in
theorem w_X2_ghostIsAsTold_0 {E : EE} {p : Program} {l : Launch} {e : Env} {s : State} {m : MethodId} {args : Array Value} {below : List Frame} {meth : Method} {c : Code} {Q : Int32 → II → Prop} (X : CX E p s m args meth c cX2_ghostIsAsTold 2 (some .boolean) RX2) : ∀ (I : II) (H : Heap) (locs : List Loc) (ls : Array Slot), wp_X2_ghostIsAsTold I Q → PP E s H locs I → lv_has ls 2 [(0, .ref (E.2.1 306))] → W p l e rmX2_ghostIsAsTold s m args below meth c H locs 0 0 (MQ below (va_Qi Q (BU E) E.2.2.2.1) args s 0 0 E.2.2.2.1) (F0 m 0 ls []) := by
  obtain ⟨⟨hx, hb, hml, hown, hts⟩, hr, hlk, hK, hST, hN⟩ := id X
  intro I H locs ls h hp hl
  unfold wp_X2_ghostIsAsTold at h
  refine lv_iconst (v := (nI 0)) hx hb dX2_ghostIsAsTold_0 (by decide) ?_
  refine lv_istore_n (lv' := [(1, .int (nI 0)), (0, .ref (E.2.1 306))]) hx hb dX2_ghostIsAsTold_1 rfl hl (by decide) rfl (fun ls hl => ?_)
  obtain ⟨n101, h⟩ := h
  refine w_X2_ghostIsAsTold_2 X ?_ ?_ n101 _ _ _ _ _ h hp (lv_sub hl [1, 0] rfl)
  · intro I H locs ls h hp hl
    refine lv_iconst (v := (nI 0)) hx hb dX2_ghostIsAsTold_59 (by decide) ?_
    exact rt_z X hp ⟨Or.inl rfl, h⟩ dX2_ghostIsAsTold_60
  · intro I H locs ls h hp hl
    refine lv_iconst (v := (nI 1)) hx hb dX2_ghostIsAsTold_67 (by decide) ?_
    exact rt_z X hp ⟨Or.inr rfl, h⟩ dX2_ghostIsAsTold_68
set_option maxRecDepth 100000 in
theorem C_X2_ghostIsAsTold {E : EE} {l : Launch} {I : II} {Q : Int32 → II → Prop} (h : wp_X2_ghostIsAsTold I Q) : Met l yX2_ghostIsAsTold (Cond.code yX2_ghostIsAsTold cX2_ghostIsAsTold 2 (some .boolean) :: lwT) rmX2_ghostIsAsTold (va_Pc [.ref (E.2.1 306)] (PU E I)) (va_Qi Q (BU E) E.2.2.2.1) 0 0 E.2.2.2.1 :=
  ofWalk [.ref (E.2.1 306)] (by decide) tw_c_X2_ghostIsAsTold (Nat.le_of_ble_eq_true rfl) (fun p e s m below meth c ls X hp hl => w_X2_ghostIsAsTold_0 X _ _ _ _ h hp hl)
abbrev rmX2_kindsOf : Room := { frames := 5, cells := 0, slots := 0, locals := 111 }
theorem vf_X2_kindsOf : VF yX2_kindsOf RX2 cX2_kindsOf 5 (some .int) 2 := ⟨tw_in_X2, tw_im_X2_kindsOf, tw_se_X2_kindsOf, tw_c_X2_kindsOf, by decide, by decide, by decide +kernel⟩
def wp_X2_kindsOf_52 (j : Nat) (Q : Int32 → II → Prop) (k5 : Int32 → Int32 → Int32 → II → Prop) (x2 : Int32) (x3 : Int32) (x4 : Int32) (I : II) : Prop := (k5 x2 x3 (x4 + (nI 1)) I)
set_option maxHeartbeats 4000000 in
set_option maxRecDepth 100000 in
theorem w_X2_kindsOf_52 {E : EE} {p : Program} {l : Launch} {e : Env} {s : State} {m : MethodId} {args : Array Value} {below : List Frame} {meth : Method} {c : Code} {Q : Int32 → II → Prop} {k5 : Int32 → Int32 → Int32 → II → Prop} (X : CX E p s m args meth c cX2_kindsOf 5 (some .int) RX2) {j : Nat} (hj : j < 37) (K5 : ∀ (x2 : Int32) (x3 : Int32) (x4 : Int32) (I : II) (H : Heap) (locs : List Loc) (ls : Array Slot), k5 x2 x3 x4 I → PP E s H locs I → lv_has ls 5 [(0, .ref (E.2.1 306)), (1, .ref (E.2.1 (8 * j))), (2, .int x2), (3, .int x3), (4, .int x4)] → W p l e rmX2_kindsOf s m args below meth c H locs 0 0 (MQ below (va_Qi Q (BU E) E.2.2.2.1) args s 0 0 E.2.2.2.1) (F0 m 5 ls [])) : ∀ (x2 : Int32) (x3 : Int32) (x4 : Int32) (I : II) (H : Heap) (locs : List Loc) (ls : Array Slot), wp_X2_kindsOf_52 j Q k5 x2 x3 x4 I → PP E s H locs I → lv_has ls 5 [(0, .ref (E.2.1 306)), (1, .ref (E.2.1 (8 * j))), (2, .int x2), (3, .int x3), (4, .int x4)] → W p l e rmX2_kindsOf s m args below meth c H locs 0 0 (MQ below (va_Qi Q (BU E) E.2.2.2.1) args s 0 0 E.2.2.2.1) (F0 m 52 ls []) := by
  obtain ⟨⟨hx, hb, hml, hown, hts⟩, hr, hlk, hK, hST, hN⟩ := id X
  intro x2 x3 x4 I H locs ls h hp hl
  unfold wp_X2_kindsOf_52 at h
  refine lv_iinc (v := (x4 + (nI 1))) (lv' := [(4, .int (x4 + (nI 1))), (0, .ref (E.2.1 306)), (1, .ref (E.2.1 (8 * j))), (2, .int x2), (3, .int x3)]) hx hb dX2_kindsOf_52 hl (k := 4) rfl rfl (by decide) rfl (fun ls hl => ?_)
  refine lv_goto (tgt := 5) hx hb dX2_kindsOf_55 (by decide) ?_
  exact K5 _ _ _ _ _ _ _ h hp (lv_sub hl [1, 2, 3, 4, 0] rfl)
def wp_X2_kindsOf_5 (j : Nat) (Q : Int32 → II → Prop) (k58 : Int32 → II → Prop) : Nat → Int32 → Int32 → Int32 → II → Prop
  | 0, _, _, _, _ => False
  | n + 1, x2, x3, x4, I => (((nI 5) < x4 → (k58 x3 I)) ∧ (¬ (nI 5) < x4 → (wp_X1_hasTeller j x2 I (fun r3 I2 => ((r3 = 0 → (k58 x3 I2)) ∧ (¬ r3 = 0 → (wp_X1_takeAll 2 j I2 (fun I5 => (vp_in x2 4 ∧ ∀ I8 : II, I8 = su I5 (8 * 2 + 1) x2.toNatClampNeg x4 → (wp_X2_ghostIsAsTold I8 (fun r11 I10 => ((r11 = 0 → (wp_X2_kindsOf_52 j Q (fun x2 x3 x4 I => wp_X2_kindsOf_5 j Q k58 n x2 x3 x4 I) x2 x3 x4 I10)) ∧ (¬ r11 = 0 → (wp_X2_kindsOf_52 j Q (fun x2 x3 x4 I => wp_X2_kindsOf_5 j Q k58 n x2 x3 x4 I) x2 (x3 ||| ((nI 1) <<< (x4 &&& 31))) x4 I10))))))))))))))
set_option maxHeartbeats 4000000 in
set_option maxRecDepth 100000 in
theorem w_X2_kindsOf_5 {E : EE} {p : Program} {l : Launch} {e : Env} {s : State} {m : MethodId} {args : Array Value} {below : List Frame} {meth : Method} {c : Code} {Q : Int32 → II → Prop} {k58 : Int32 → II → Prop} (X : CX E p s m args meth c cX2_kindsOf 5 (some .int) RX2) {j : Nat} (hj : j < 37) (K58 : ∀ (x3 : Int32) (I : II) (H : Heap) (locs : List Loc) (ls : Array Slot), k58 x3 I → PP E s H locs I → lv_has ls 5 [(3, .int x3)] → W p l e rmX2_kindsOf s m args below meth c H locs 0 0 (MQ below (va_Qi Q (BU E) E.2.2.2.1) args s 0 0 E.2.2.2.1) (F0 m 58 ls [])) : ∀ (n : Nat) (x2 : Int32) (x3 : Int32) (x4 : Int32) (I : II) (H : Heap) (locs : List Loc) (ls : Array Slot), wp_X2_kindsOf_5 j Q k58 n x2 x3 x4 I → PP E s H locs I → lv_has ls 5 [(0, .ref (E.2.1 306)), (1, .ref (E.2.1 (8 * j))), (2, .int x2), (3, .int x3), (4, .int x4)] → W p l e rmX2_kindsOf s m args below meth c H locs 0 0 (MQ below (va_Qi Q (BU E) E.2.2.2.1) args s 0 0 E.2.2.2.1) (F0 m 5 ls []) := by
  obtain ⟨⟨hx, hb, hml, hown, hts⟩, hr, hlk, hK, hST, hN⟩ := id X
  intro n
  induction n with
  | zero =>
    intro x2 x3 x4 I H locs ls h hp hl
    exact False.elim h
  | succ n ih =>
    intro x2 x3 x4 I H locs ls h hp hl
    rw [wp_X2_kindsOf_5.eq_2] at h
    refine lv_iload hx hb dX2_kindsOf_5 (lv_at hl 4 rfl) ?_
    refine lv_iconst (v := (nI 5)) hx hb dX2_kindsOf_7 (by decide) ?_
    refine lv_icmp_gt (tgt := 58) hx hb dX2_kindsOf_8 (by decide) (fun c1 => ?_) (fun c1 => ?_)
    · have h := h.1 c1
      exact K58 _ _ _ _ _ h hp (lv_sub hl [3] rfl)
    · have h := h.2 c1
      refine lv_aload_n hx hb dX2_kindsOf_11 rfl (lv_at hl 1 rfl) ?_
      refine lv_iload_n hx hb dX2_kindsOf_12 rfl (lv_at hl 2 rfl) ?_
      refine ki (kV (As := [.int x2]) (rest := []) X hp (C_X1_hasTeller hj h) tw_ml_X2_73 vf_X1_hasTeller ⟨rfl, rfl, Nat.le_of_ble_eq_true rfl, Nat.le_of_ble_eq_true rfl⟩ (pr_rcvb X hp hj) rfl hl.1 rfl (Nat.le_of_ble_eq_true rfl) dX2_kindsOf_13) hp (fun r3 I2 H locs h hp => ?_)
      refine lv_if_eq (tgt := 58) hx hb dX2_kindsOf_16 (by decide) (fun c4 => ?_) (fun c4 => ?_)
      · have h := h.1 c4
        exact K58 _ _ _ _ _ h hp (lv_sub hl [3] rfl)
      · have h := h.2 c4
        refine lv_aload_n hx hb dX2_kindsOf_19 rfl (lv_at hl 0 rfl) ?_
        refine f_X2_12 X hp dX2_kindsOf_20 ?_
        refine lv_aload_n hx hb dX2_kindsOf_23 rfl (lv_at hl 1 rfl) ?_
        refine kv (kV (As := [.ref (E.2.1 (8 * j))]) (rest := []) X hp (C_X1_takeAll (by decide) hj h) tw_ml_X2_22 vf_X1_takeAll ⟨rfl, rfl, Nat.le_of_ble_eq_true rfl, Nat.le_of_ble_eq_true rfl⟩ (pr_rcvb X hp (by decide)) rfl hl.1 rfl (Nat.le_of_ble_eq_true rfl) dX2_kindsOf_24) hp (fun I5 H locs h hp => ?_)
        refine lv_aload_n hx hb dX2_kindsOf_27 rfl (lv_at hl 0 rfl) ?_
        refine f_X2_12 X hp dX2_kindsOf_28 ?_
        refine f_X2_80 X hp (by decide) dX2_kindsOf_31 ?_
        refine lv_iload_n hx hb dX2_kindsOf_34 rfl (lv_at hl 2 rfl) ?_
        refine lv_iload hx hb dX2_kindsOf_35 (lv_at hl 4 rfl) ?_
        have hv7 := h.1
        have h := h.2
        refine as_i X hp (ar_1 (by decide)) hv7 dX2_kindsOf_37 (fun H locs hp => ?_)
        obtain ⟨I8, e9⟩ : ∃ y, y = su I5 (8 * 2 + 1) x2.toNatClampNeg x4 := ⟨_, rfl⟩
        have hp : PP E s H locs I8 := by rw [e9]; exact hp
        have h := h I8 e9
        refine lv_aload_n hx hb dX2_kindsOf_38 rfl (lv_at hl 0 rfl) ?_
        refine ki (kV (As := []) (rest := []) X hp (C_X2_ghostIsAsTold  h) tw_ml_X2_83 vf_X2_ghostIsAsTold ⟨rfl, rfl, Nat.le_of_ble_eq_true rfl, Nat.le_of_ble_eq_true rfl⟩ (pr_rcv X hp (k := 306) (by decide) (ob_306 _) (q := (RX2, TX2, 4)) rfl) rfl hl.1 rfl (Nat.le_of_ble_eq_true rfl) dX2_kindsOf_39) hp (fun r11 I10 H locs h hp => ?_)
        refine lv_if_eq (tgt := 52) hx hb dX2_kindsOf_42 (by decide) (fun c12 => ?_) (fun c12 => ?_)
        · have h := h.1 c12
          exact w_X2_kindsOf_52 X hj ih _ _ _ _ _ _ _ h hp (lv_sub hl [0, 1, 2, 3, 4] rfl)
        · have h := h.2 c12
          refine lv_iload_n hx hb dX2_kindsOf_45 rfl (lv_at hl 3 rfl) ?_
          refine lv_iconst (v := (nI 1)) hx hb dX2_kindsOf_46 (by decide) ?_
          refine lv_iload hx hb dX2_kindsOf_47 (lv_at hl 4 rfl) ?_
          refine lv_ishl hx hb dX2_kindsOf_49 ?_
          refine lv_ior hx hb dX2_kindsOf_50 ?_
          refine lv_istore_n (lv' := [(3, .int (x3 ||| ((nI 1) <<< (x4 &&& 31)))), (0, .ref (E.2.1 306)), (1, .ref (E.2.1 (8 * j))), (2, .int x2), (4, .int x4)]) hx hb dX2_kindsOf_51 rfl hl (by decide) rfl (fun ls hl => ?_)
          exact w_X2_kindsOf_52 X hj ih _ _ _ _ _ _ _ h hp (lv_sub hl [1, 2, 3, 0, 4] rfl)
def wp_X2_kindsOf (j : Nat) (x2 : Int32) (I : II) (Q : Int32 → II → Prop) : Prop := (∃ n51, wp_X2_kindsOf_5 j Q (fun x3 I => (Q x3 I)) n51 x2 (nI 0) (nI 1) I)
set_option maxHeartbeats 4000000 in
set_option maxRecDepth 100000 in
theorem w_X2_kindsOf_0 {E : EE} {p : Program} {l : Launch} {e : Env} {s : State} {m : MethodId} {args : Array Value} {below : List Frame} {meth : Method} {c : Code} {Q : Int32 → II → Prop} (X : CX E p s m args meth c cX2_kindsOf 5 (some .int) RX2) {j : Nat} (hj : j < 37) : ∀ (x2 : Int32) (I : II) (H : Heap) (locs : List Loc) (ls : Array Slot), wp_X2_kindsOf j x2 I Q → PP E s H locs I → lv_has ls 5 [(0, .ref (E.2.1 306)), (1, .ref (E.2.1 (8 * j))), (2, .int x2)] → W p l e rmX2_kindsOf s m args below meth c H locs 0 0 (MQ below (va_Qi Q (BU E) E.2.2.2.1) args s 0 0 E.2.2.2.1) (F0 m 0 ls []) := by
  obtain ⟨⟨hx, hb, hml, hown, hts⟩, hr, hlk, hK, hST, hN⟩ := id X
  intro x2 I H locs ls h hp hl
  unfold wp_X2_kindsOf at h
  refine lv_iconst (v := (nI 0)) hx hb dX2_kindsOf_0 (by decide) ?_
  refine lv_istore_n (lv' := [(3, .int (nI 0)), (0, .ref (E.2.1 306)), (1, .ref (E.2.1 (8 * j))), (2, .int x2)]) hx hb dX2_kindsOf_1 rfl hl (by decide) rfl (fun ls hl => ?_)
  refine lv_iconst (v := (nI 1)) hx hb dX2_kindsOf_2 (by decide) ?_
  refine lv_istore (lv' := [(4, .int (nI 1)), (3, .int (nI 0)), (0, .ref (E.2.1 306)), (1, .ref (E.2.1 (8 * j))), (2, .int x2)]) hx hb dX2_kindsOf_3 hl (by decide) rfl (fun ls hl => ?_)
  obtain ⟨n51, h⟩ := h
  refine w_X2_kindsOf_5 X hj ?_ n51 _ _ _ _ _ _ _ h hp (lv_sub hl [2, 3, 4, 1, 0] rfl)
  · intro x3 I H locs ls h hp hl
    refine lv_iload_n hx hb dX2_kindsOf_58 rfl (lv_at hl 0 rfl) ?_
    exact rt_i X hp h dX2_kindsOf_59
set_option maxRecDepth 100000 in
theorem C_X2_kindsOf {E : EE} {l : Launch} {j : Nat} (hj : j < 37) {x2 : Int32} {I : II} {Q : Int32 → II → Prop} (h : wp_X2_kindsOf j x2 I Q) : Met l yX2_kindsOf (Cond.code yX2_kindsOf cX2_kindsOf 5 (some .int) :: lwT) rmX2_kindsOf (va_Pc [.ref (E.2.1 306), .ref (E.2.1 (8 * j)), .int x2] (PU E I)) (va_Qi Q (BU E) E.2.2.2.1) 0 0 E.2.2.2.1 :=
  ofWalk [.ref (E.2.1 306), .ref (E.2.1 (8 * j)), .int x2] (by decide) tw_c_X2_kindsOf (Nat.le_of_ble_eq_true rfl) (fun p e s m below meth c ls X hp hl => w_X2_kindsOf_0 X hj _ _ _ _ _ h hp hl)
abbrev rmX2_caresOf : Room := { frames := 5, cells := 0, slots := 0, locals := 111 }
theorem vf_X2_caresOf : VF yX2_caresOf RX2 cX2_caresOf 5 (some .int) 2 := ⟨tw_in_X2, tw_im_X2_caresOf, tw_se_X2_caresOf, tw_c_X2_caresOf, by decide, by decide, by decide +kernel⟩
def wp_X2_caresOf_53 (j : Nat) (Q : Int32 → II → Prop) (k5 : Int32 → Int32 → Int32 → II → Prop) (x2 : Int32) (x3 : Int32) (x4 : Int32) (I : II) : Prop := (k5 x2 x3 (x4 + (nI 1)) I)
set_option maxHeartbeats 4000000 in
set_option maxRecDepth 100000 in
theorem w_X2_caresOf_53 {E : EE} {p : Program} {l : Launch} {e : Env} {s : State} {m : MethodId} {args : Array Value} {below : List Frame} {meth : Method} {c : Code} {Q : Int32 → II → Prop} {k5 : Int32 → Int32 → Int32 → II → Prop} (X : CX E p s m args meth c cX2_caresOf 5 (some .int) RX2) {j : Nat} (hj : j < 37) (K5 : ∀ (x2 : Int32) (x3 : Int32) (x4 : Int32) (I : II) (H : Heap) (locs : List Loc) (ls : Array Slot), k5 x2 x3 x4 I → PP E s H locs I → lv_has ls 5 [(0, .ref (E.2.1 306)), (1, .ref (E.2.1 (8 * j))), (2, .int x2), (3, .int x3), (4, .int x4)] → W p l e rmX2_caresOf s m args below meth c H locs 0 0 (MQ below (va_Qi Q (BU E) E.2.2.2.1) args s 0 0 E.2.2.2.1) (F0 m 5 ls [])) : ∀ (x2 : Int32) (x3 : Int32) (x4 : Int32) (I : II) (H : Heap) (locs : List Loc) (ls : Array Slot), wp_X2_caresOf_53 j Q k5 x2 x3 x4 I → PP E s H locs I → lv_has ls 5 [(0, .ref (E.2.1 306)), (1, .ref (E.2.1 (8 * j))), (2, .int x2), (3, .int x3), (4, .int x4)] → W p l e rmX2_caresOf s m args below meth c H locs 0 0 (MQ below (va_Qi Q (BU E) E.2.2.2.1) args s 0 0 E.2.2.2.1) (F0 m 53 ls []) := by
  obtain ⟨⟨hx, hb, hml, hown, hts⟩, hr, hlk, hK, hST, hN⟩ := id X
  intro x2 x3 x4 I H locs ls h hp hl
  unfold wp_X2_caresOf_53 at h
  refine lv_iinc (v := (x4 + (nI 1))) (lv' := [(4, .int (x4 + (nI 1))), (0, .ref (E.2.1 306)), (1, .ref (E.2.1 (8 * j))), (2, .int x2), (3, .int x3)]) hx hb dX2_caresOf_53 hl (k := 4) rfl rfl (by decide) rfl (fun ls hl => ?_)
  refine lv_goto (tgt := 5) hx hb dX2_caresOf_56 (by decide) ?_
  exact K5 _ _ _ _ _ _ _ h hp (lv_sub hl [1, 2, 3, 4, 0] rfl)
def wp_X2_caresOf_5 (j : Nat) (Q : Int32 → II → Prop) (k59 : Int32 → II → Prop) : Nat → Int32 → Int32 → Int32 → II → Prop
  | 0, _, _, _, _ => False
  | n + 1, x2, x3, x4, I => (((nI 9) < x4 → (k59 x3 I)) ∧ (¬ (nI 9) < x4 → (wp_X1_hasTeller j x2 I (fun r3 I2 => ((r3 = 0 → (k59 x3 I2)) ∧ (¬ r3 = 0 → (wp_X1_takeAll 2 j I2 (fun I5 => (vp_in x2 4 ∧ ∀ I8 : II, I8 = su I5 (8 * 2 + 3) x2.toNatClampNeg x4 → (wp_X2_ghostIsAsTold I8 (fun r11 I10 => ((r11 = 0 → (wp_X2_caresOf_53 j Q (fun x2 x3 x4 I => wp_X2_caresOf_5 j Q k59 n x2 x3 x4 I) x2 x3 x4 I10)) ∧ (¬ r11 = 0 → (wp_X2_caresOf_53 j Q (fun x2 x3 x4 I => wp_X2_caresOf_5 j Q k59 n x2 x3 x4 I) x2 (x3 ||| ((nI 1) <<< (x4 &&& 31))) x4 I10))))))))))))))
set_option maxHeartbeats 4000000 in
set_option maxRecDepth 100000 in
theorem w_X2_caresOf_5 {E : EE} {p : Program} {l : Launch} {e : Env} {s : State} {m : MethodId} {args : Array Value} {below : List Frame} {meth : Method} {c : Code} {Q : Int32 → II → Prop} {k59 : Int32 → II → Prop} (X : CX E p s m args meth c cX2_caresOf 5 (some .int) RX2) {j : Nat} (hj : j < 37) (K59 : ∀ (x3 : Int32) (I : II) (H : Heap) (locs : List Loc) (ls : Array Slot), k59 x3 I → PP E s H locs I → lv_has ls 5 [(3, .int x3)] → W p l e rmX2_caresOf s m args below meth c H locs 0 0 (MQ below (va_Qi Q (BU E) E.2.2.2.1) args s 0 0 E.2.2.2.1) (F0 m 59 ls [])) : ∀ (n : Nat) (x2 : Int32) (x3 : Int32) (x4 : Int32) (I : II) (H : Heap) (locs : List Loc) (ls : Array Slot), wp_X2_caresOf_5 j Q k59 n x2 x3 x4 I → PP E s H locs I → lv_has ls 5 [(0, .ref (E.2.1 306)), (1, .ref (E.2.1 (8 * j))), (2, .int x2), (3, .int x3), (4, .int x4)] → W p l e rmX2_caresOf s m args below meth c H locs 0 0 (MQ below (va_Qi Q (BU E) E.2.2.2.1) args s 0 0 E.2.2.2.1) (F0 m 5 ls []) := by
  obtain ⟨⟨hx, hb, hml, hown, hts⟩, hr, hlk, hK, hST, hN⟩ := id X
  intro n
  induction n with
  | zero =>
    intro x2 x3 x4 I H locs ls h hp hl
    exact False.elim h
  | succ n ih =>
    intro x2 x3 x4 I H locs ls h hp hl
    rw [wp_X2_caresOf_5.eq_2] at h
    refine lv_iload hx hb dX2_caresOf_5 (lv_at hl 4 rfl) ?_
    refine lv_bipush (v := (nI 9)) hx hb dX2_caresOf_7 (by decide) ?_
    refine lv_icmp_gt (tgt := 59) hx hb dX2_caresOf_9 (by decide) (fun c1 => ?_) (fun c1 => ?_)
    · have h := h.1 c1
      exact K59 _ _ _ _ _ h hp (lv_sub hl [3] rfl)
    · have h := h.2 c1
      refine lv_aload_n hx hb dX2_caresOf_12 rfl (lv_at hl 1 rfl) ?_
      refine lv_iload_n hx hb dX2_caresOf_13 rfl (lv_at hl 2 rfl) ?_
      refine ki (kV (As := [.int x2]) (rest := []) X hp (C_X1_hasTeller hj h) tw_ml_X2_73 vf_X1_hasTeller ⟨rfl, rfl, Nat.le_of_ble_eq_true rfl, Nat.le_of_ble_eq_true rfl⟩ (pr_rcvb X hp hj) rfl hl.1 rfl (Nat.le_of_ble_eq_true rfl) dX2_caresOf_14) hp (fun r3 I2 H locs h hp => ?_)
      refine lv_if_eq (tgt := 59) hx hb dX2_caresOf_17 (by decide) (fun c4 => ?_) (fun c4 => ?_)
      · have h := h.1 c4
        exact K59 _ _ _ _ _ h hp (lv_sub hl [3] rfl)
      · have h := h.2 c4
        refine lv_aload_n hx hb dX2_caresOf_20 rfl (lv_at hl 0 rfl) ?_
        refine f_X2_12 X hp dX2_caresOf_21 ?_
        refine lv_aload_n hx hb dX2_caresOf_24 rfl (lv_at hl 1 rfl) ?_
        refine kv (kV (As := [.ref (E.2.1 (8 * j))]) (rest := []) X hp (C_X1_takeAll (by decide) hj h) tw_ml_X2_22 vf_X1_takeAll ⟨rfl, rfl, Nat.le_of_ble_eq_true rfl, Nat.le_of_ble_eq_true rfl⟩ (pr_rcvb X hp (by decide)) rfl hl.1 rfl (Nat.le_of_ble_eq_true rfl) dX2_caresOf_25) hp (fun I5 H locs h hp => ?_)
        refine lv_aload_n hx hb dX2_caresOf_28 rfl (lv_at hl 0 rfl) ?_
        refine f_X2_12 X hp dX2_caresOf_29 ?_
        refine f_X2_87 X hp (by decide) dX2_caresOf_32 ?_
        refine lv_iload_n hx hb dX2_caresOf_35 rfl (lv_at hl 2 rfl) ?_
        refine lv_iload hx hb dX2_caresOf_36 (lv_at hl 4 rfl) ?_
        have hv7 := h.1
        have h := h.2
        refine as_i X hp (ar_3 (by decide)) hv7 dX2_caresOf_38 (fun H locs hp => ?_)
        obtain ⟨I8, e9⟩ : ∃ y, y = su I5 (8 * 2 + 3) x2.toNatClampNeg x4 := ⟨_, rfl⟩
        have hp : PP E s H locs I8 := by rw [e9]; exact hp
        have h := h I8 e9
        refine lv_aload_n hx hb dX2_caresOf_39 rfl (lv_at hl 0 rfl) ?_
        refine ki (kV (As := []) (rest := []) X hp (C_X2_ghostIsAsTold  h) tw_ml_X2_83 vf_X2_ghostIsAsTold ⟨rfl, rfl, Nat.le_of_ble_eq_true rfl, Nat.le_of_ble_eq_true rfl⟩ (pr_rcv X hp (k := 306) (by decide) (ob_306 _) (q := (RX2, TX2, 4)) rfl) rfl hl.1 rfl (Nat.le_of_ble_eq_true rfl) dX2_caresOf_40) hp (fun r11 I10 H locs h hp => ?_)
        refine lv_if_eq (tgt := 53) hx hb dX2_caresOf_43 (by decide) (fun c12 => ?_) (fun c12 => ?_)
        · have h := h.1 c12
          exact w_X2_caresOf_53 X hj ih _ _ _ _ _ _ _ h hp (lv_sub hl [0, 1, 2, 3, 4] rfl)
        · have h := h.2 c12
          refine lv_iload_n hx hb dX2_caresOf_46 rfl (lv_at hl 3 rfl) ?_
          refine lv_iconst (v := (nI 1)) hx hb dX2_caresOf_47 (by decide) ?_
          refine lv_iload hx hb dX2_caresOf_48 (lv_at hl 4 rfl) ?_
          refine lv_ishl hx hb dX2_caresOf_50 ?_
          refine lv_ior hx hb dX2_caresOf_51 ?_
          refine lv_istore_n (lv' := [(3, .int (x3 ||| ((nI 1) <<< (x4 &&& 31)))), (0, .ref (E.2.1 306)), (1, .ref (E.2.1 (8 * j))), (2, .int x2), (4, .int x4)]) hx hb dX2_caresOf_52 rfl hl (by decide) rfl (fun ls hl => ?_)
          exact w_X2_caresOf_53 X hj ih _ _ _ _ _ _ _ h hp (lv_sub hl [1, 2, 3, 0, 4] rfl)
def wp_X2_caresOf (j : Nat) (x2 : Int32) (I : II) (Q : Int32 → II → Prop) : Prop := (∃ n51, wp_X2_caresOf_5 j Q (fun x3 I => (Q x3 I)) n51 x2 (nI 0) (nI 1) I)
set_option maxHeartbeats 4000000 in
set_option maxRecDepth 100000 in
theorem w_X2_caresOf_0 {E : EE} {p : Program} {l : Launch} {e : Env} {s : State} {m : MethodId} {args : Array Value} {below : List Frame} {meth : Method} {c : Code} {Q : Int32 → II → Prop} (X : CX E p s m args meth c cX2_caresOf 5 (some .int) RX2) {j : Nat} (hj : j < 37) : ∀ (x2 : Int32) (I : II) (H : Heap) (locs : List Loc) (ls : Array Slot), wp_X2_caresOf j x2 I Q → PP E s H locs I → lv_has ls 5 [(0, .ref (E.2.1 306)), (1, .ref (E.2.1 (8 * j))), (2, .int x2)] → W p l e rmX2_caresOf s m args below meth c H locs 0 0 (MQ below (va_Qi Q (BU E) E.2.2.2.1) args s 0 0 E.2.2.2.1) (F0 m 0 ls []) := by
  obtain ⟨⟨hx, hb, hml, hown, hts⟩, hr, hlk, hK, hST, hN⟩ := id X
  intro x2 I H locs ls h hp hl
  unfold wp_X2_caresOf at h
  refine lv_iconst (v := (nI 0)) hx hb dX2_caresOf_0 (by decide) ?_
  refine lv_istore_n (lv' := [(3, .int (nI 0)), (0, .ref (E.2.1 306)), (1, .ref (E.2.1 (8 * j))), (2, .int x2)]) hx hb dX2_caresOf_1 rfl hl (by decide) rfl (fun ls hl => ?_)
  refine lv_iconst (v := (nI 1)) hx hb dX2_caresOf_2 (by decide) ?_
  refine lv_istore (lv' := [(4, .int (nI 1)), (3, .int (nI 0)), (0, .ref (E.2.1 306)), (1, .ref (E.2.1 (8 * j))), (2, .int x2)]) hx hb dX2_caresOf_3 hl (by decide) rfl (fun ls hl => ?_)
  obtain ⟨n51, h⟩ := h
  refine w_X2_caresOf_5 X hj ?_ n51 _ _ _ _ _ _ _ h hp (lv_sub hl [2, 3, 4, 1, 0] rfl)
  · intro x3 I H locs ls h hp hl
    refine lv_iload_n hx hb dX2_caresOf_59 rfl (lv_at hl 0 rfl) ?_
    exact rt_i X hp h dX2_caresOf_60
set_option maxRecDepth 100000 in
theorem C_X2_caresOf {E : EE} {l : Launch} {j : Nat} (hj : j < 37) {x2 : Int32} {I : II} {Q : Int32 → II → Prop} (h : wp_X2_caresOf j x2 I Q) : Met l yX2_caresOf (Cond.code yX2_caresOf cX2_caresOf 5 (some .int) :: lwT) rmX2_caresOf (va_Pc [.ref (E.2.1 306), .ref (E.2.1 (8 * j)), .int x2] (PU E I)) (va_Qi Q (BU E) E.2.2.2.1) 0 0 E.2.2.2.1 :=
  ofWalk [.ref (E.2.1 306), .ref (E.2.1 (8 * j)), .int x2] (by decide) tw_c_X2_caresOf (Nat.le_of_ble_eq_true rfl) (fun p e s m below meth c ls X hp hl => w_X2_caresOf_0 X hj _ _ _ _ _ h hp hl)
abbrev rmX2_sumsOfFirst : Room := { frames := 5, cells := 0, slots := 0, locals := 111 }
theorem vf_X2_sumsOfFirst : VF yX2_sumsOfFirst RX2 cX2_sumsOfFirst 5 (some .int) 1 := ⟨tw_in_X2, tw_im_X2_sumsOfFirst, tw_se_X2_sumsOfFirst, tw_c_X2_sumsOfFirst, by decide, by decide, by decide +kernel⟩
def wp_X2_sumsOfFirst_59 (j : Nat) (Q : Int32 → II → Prop) (k11 : Int32 → Int32 → Int32 → II → Prop) (x2 : Int32) (x3 : Int32) (x4 : Int32) (I : II) : Prop := (k11 x2 x3 (x4 + (nI 1)) I)
set_option maxHeartbeats 4000000 in
set_option maxRecDepth 100000 in
theorem w_X2_sumsOfFirst_59 {E : EE} {p : Program} {l : Launch} {e : Env} {s : State} {m : MethodId} {args : Array Value} {below : List Frame} {meth : Method} {c : Code} {Q : Int32 → II → Prop} {k11 : Int32 → Int32 → Int32 → II → Prop} (X : CX E p s m args meth c cX2_sumsOfFirst 5 (some .int) RX2) {j : Nat} (hj : j < 37) (K11 : ∀ (x2 : Int32) (x3 : Int32) (x4 : Int32) (I : II) (H : Heap) (locs : List Loc) (ls : Array Slot), k11 x2 x3 x4 I → PP E s H locs I → lv_has ls 5 [(0, .ref (E.2.1 306)), (1, .ref (E.2.1 (8 * j))), (2, .int x2), (3, .int x3), (4, .int x4)] → W p l e rmX2_sumsOfFirst s m args below meth c H locs 0 0 (MQ below (va_Qi Q (BU E) E.2.2.2.1) args s 0 0 E.2.2.2.1) (F0 m 11 ls [])) : ∀ (x2 : Int32) (x3 : Int32) (x4 : Int32) (I : II) (H : Heap) (locs : List Loc) (ls : Array Slot), wp_X2_sumsOfFirst_59 j Q k11 x2 x3 x4 I → PP E s H locs I → lv_has ls 5 [(0, .ref (E.2.1 306)), (1, .ref (E.2.1 (8 * j))), (2, .int x2), (3, .int x3), (4, .int x4)] → W p l e rmX2_sumsOfFirst s m args below meth c H locs 0 0 (MQ below (va_Qi Q (BU E) E.2.2.2.1) args s 0 0 E.2.2.2.1) (F0 m 59 ls []) := by
  obtain ⟨⟨hx, hb, hml, hown, hts⟩, hr, hlk, hK, hST, hN⟩ := id X
  intro x2 x3 x4 I H locs ls h hp hl
  unfold wp_X2_sumsOfFirst_59 at h
  refine lv_iinc (v := (x4 + (nI 1))) (lv' := [(4, .int (x4 + (nI 1))), (0, .ref (E.2.1 306)), (1, .ref (E.2.1 (8 * j))), (2, .int x2), (3, .int x3)]) hx hb dX2_sumsOfFirst_59 hl (k := 4) rfl rfl (by decide) rfl (fun ls hl => ?_)
  refine lv_goto (tgt := 11) hx hb dX2_sumsOfFirst_62 (by decide) ?_
  exact K11 _ _ _ _ _ _ _ h hp (lv_sub hl [1, 2, 3, 4, 0] rfl)
def wp_X2_sumsOfFirst_11 (j : Nat) (Q : Int32 → II → Prop) (k65 : Int32 → II → Prop) : Nat → Int32 → Int32 → Int32 → II → Prop
  | 0, _, _, _, _ => False
  | n + 1, x2, x3, x4, I => (((nI 30) < x4 → (k65 x2 I)) ∧ (¬ (nI 30) < x4 → (wp_X1_knowsPaper j x3 I (fun r3 I2 => ((r3 = 0 → (k65 x2 I2)) ∧ (¬ r3 = 0 → (wp_X1_takeAll 2 j I2 (fun I5 => (vp_in x3 7 ∧ ∀ I8 : II, I8 = su I5 (8 * 2 + 6) x3.toNatClampNeg x4 → (wp_X2_ghostIsAsTold I8 (fun r11 I10 => ((r11 = 0 → (wp_X2_sumsOfFirst_59 j Q (fun x2 x3 x4 I => wp_X2_sumsOfFirst_11 j Q k65 n x2 x3 x4 I) x2 x3 x4 I10)) ∧ (¬ r11 = 0 → (wp_X2_sumsOfFirst_59 j Q (fun x2 x3 x4 I => wp_X2_sumsOfFirst_11 j Q k65 n x2 x3 x4 I) (x2 ||| ((nI 1) <<< (x4 &&& 31))) x3 x4 I10))))))))))))))
set_option maxHeartbeats 4000000 in
set_option maxRecDepth 100000 in
theorem w_X2_sumsOfFirst_11 {E : EE} {p : Program} {l : Launch} {e : Env} {s : State} {m : MethodId} {args : Array Value} {below : List Frame} {meth : Method} {c : Code} {Q : Int32 → II → Prop} {k65 : Int32 → II → Prop} (X : CX E p s m args meth c cX2_sumsOfFirst 5 (some .int) RX2) {j : Nat} (hj : j < 37) (K65 : ∀ (x2 : Int32) (I : II) (H : Heap) (locs : List Loc) (ls : Array Slot), k65 x2 I → PP E s H locs I → lv_has ls 5 [(2, .int x2)] → W p l e rmX2_sumsOfFirst s m args below meth c H locs 0 0 (MQ below (va_Qi Q (BU E) E.2.2.2.1) args s 0 0 E.2.2.2.1) (F0 m 65 ls [])) : ∀ (n : Nat) (x2 : Int32) (x3 : Int32) (x4 : Int32) (I : II) (H : Heap) (locs : List Loc) (ls : Array Slot), wp_X2_sumsOfFirst_11 j Q k65 n x2 x3 x4 I → PP E s H locs I → lv_has ls 5 [(0, .ref (E.2.1 306)), (1, .ref (E.2.1 (8 * j))), (2, .int x2), (3, .int x3), (4, .int x4)] → W p l e rmX2_sumsOfFirst s m args below meth c H locs 0 0 (MQ below (va_Qi Q (BU E) E.2.2.2.1) args s 0 0 E.2.2.2.1) (F0 m 11 ls []) := by
  obtain ⟨⟨hx, hb, hml, hown, hts⟩, hr, hlk, hK, hST, hN⟩ := id X
  intro n
  induction n with
  | zero =>
    intro x2 x3 x4 I H locs ls h hp hl
    exact False.elim h
  | succ n ih =>
    intro x2 x3 x4 I H locs ls h hp hl
    rw [wp_X2_sumsOfFirst_11.eq_2] at h
    refine lv_iload hx hb dX2_sumsOfFirst_11 (lv_at hl 4 rfl) ?_
    refine lv_bipush (v := (nI 30)) hx hb dX2_sumsOfFirst_13 (by decide) ?_
    refine lv_icmp_gt (tgt := 65) hx hb dX2_sumsOfFirst_15 (by decide) (fun c1 => ?_) (fun c1 => ?_)
    · have h := h.1 c1
      exact K65 _ _ _ _ _ h hp (lv_sub hl [2] rfl)
    · have h := h.2 c1
      refine lv_aload_n hx hb dX2_sumsOfFirst_18 rfl (lv_at hl 1 rfl) ?_
      refine lv_iload_n hx hb dX2_sumsOfFirst_19 rfl (lv_at hl 3 rfl) ?_
      refine ki (kV (As := [.int x3]) (rest := []) X hp (C_X1_knowsPaper hj h) tw_ml_X2_93 vf_X1_knowsPaper ⟨rfl, rfl, Nat.le_of_ble_eq_true rfl, Nat.le_of_ble_eq_true rfl⟩ (pr_rcvb X hp hj) rfl hl.1 rfl (Nat.le_of_ble_eq_true rfl) dX2_sumsOfFirst_20) hp (fun r3 I2 H locs h hp => ?_)
      refine lv_if_eq (tgt := 65) hx hb dX2_sumsOfFirst_23 (by decide) (fun c4 => ?_) (fun c4 => ?_)
      · have h := h.1 c4
        exact K65 _ _ _ _ _ h hp (lv_sub hl [2] rfl)
      · have h := h.2 c4
        refine lv_aload_n hx hb dX2_sumsOfFirst_26 rfl (lv_at hl 0 rfl) ?_
        refine f_X2_12 X hp dX2_sumsOfFirst_27 ?_
        refine lv_aload_n hx hb dX2_sumsOfFirst_30 rfl (lv_at hl 1 rfl) ?_
        refine kv (kV (As := [.ref (E.2.1 (8 * j))]) (rest := []) X hp (C_X1_takeAll (by decide) hj h) tw_ml_X2_22 vf_X1_takeAll ⟨rfl, rfl, Nat.le_of_ble_eq_true rfl, Nat.le_of_ble_eq_true rfl⟩ (pr_rcvb X hp (by decide)) rfl hl.1 rfl (Nat.le_of_ble_eq_true rfl) dX2_sumsOfFirst_31) hp (fun I5 H locs h hp => ?_)
        refine lv_aload_n hx hb dX2_sumsOfFirst_34 rfl (lv_at hl 0 rfl) ?_
        refine f_X2_12 X hp dX2_sumsOfFirst_35 ?_
        refine f_X2_96 X hp (by decide) dX2_sumsOfFirst_38 ?_
        refine lv_iload_n hx hb dX2_sumsOfFirst_41 rfl (lv_at hl 3 rfl) ?_
        refine lv_iload hx hb dX2_sumsOfFirst_42 (lv_at hl 4 rfl) ?_
        have hv7 := h.1
        have h := h.2
        refine as_i X hp (ar_6 (by decide)) hv7 dX2_sumsOfFirst_44 (fun H locs hp => ?_)
        obtain ⟨I8, e9⟩ : ∃ y, y = su I5 (8 * 2 + 6) x3.toNatClampNeg x4 := ⟨_, rfl⟩
        have hp : PP E s H locs I8 := by rw [e9]; exact hp
        have h := h I8 e9
        refine lv_aload_n hx hb dX2_sumsOfFirst_45 rfl (lv_at hl 0 rfl) ?_
        refine ki (kV (As := []) (rest := []) X hp (C_X2_ghostIsAsTold  h) tw_ml_X2_83 vf_X2_ghostIsAsTold ⟨rfl, rfl, Nat.le_of_ble_eq_true rfl, Nat.le_of_ble_eq_true rfl⟩ (pr_rcv X hp (k := 306) (by decide) (ob_306 _) (q := (RX2, TX2, 4)) rfl) rfl hl.1 rfl (Nat.le_of_ble_eq_true rfl) dX2_sumsOfFirst_46) hp (fun r11 I10 H locs h hp => ?_)
        refine lv_if_eq (tgt := 59) hx hb dX2_sumsOfFirst_49 (by decide) (fun c12 => ?_) (fun c12 => ?_)
        · have h := h.1 c12
          exact w_X2_sumsOfFirst_59 X hj ih _ _ _ _ _ _ _ h hp (lv_sub hl [0, 1, 2, 3, 4] rfl)
        · have h := h.2 c12
          refine lv_iload_n hx hb dX2_sumsOfFirst_52 rfl (lv_at hl 2 rfl) ?_
          refine lv_iconst (v := (nI 1)) hx hb dX2_sumsOfFirst_53 (by decide) ?_
          refine lv_iload hx hb dX2_sumsOfFirst_54 (lv_at hl 4 rfl) ?_
          refine lv_ishl hx hb dX2_sumsOfFirst_56 ?_
          refine lv_ior hx hb dX2_sumsOfFirst_57 ?_
          refine lv_istore_n (lv' := [(2, .int (x2 ||| ((nI 1) <<< (x4 &&& 31)))), (0, .ref (E.2.1 306)), (1, .ref (E.2.1 (8 * j))), (3, .int x3), (4, .int x4)]) hx hb dX2_sumsOfFirst_58 rfl hl (by decide) rfl (fun ls hl => ?_)
          exact w_X2_sumsOfFirst_59 X hj ih _ _ _ _ _ _ _ h hp (lv_sub hl [1, 2, 0, 3, 4] rfl)
def wp_X2_sumsOfFirst (j : Nat) (I : II) (Q : Int32 → II → Prop) : Prop := (wp_X1_paperAt j (nI 0) I (fun r2 I1 => (∃ n53, wp_X2_sumsOfFirst_11 j Q (fun x2 I => (Q x2 I)) n53 (nI 0) r2 (nI 1) I1)))
set_option maxHeartbeats 4000000 in
set_option maxRecDepth 100000 in
theorem w_X2_sumsOfFirst_0 {E : EE} {p : Program} {l : Launch} {e : Env} {s : State} {m : MethodId} {args : Array Value} {below : List Frame} {meth : Method} {c : Code} {Q : Int32 → II → Prop} (X : CX E p s m args meth c cX2_sumsOfFirst 5 (some .int) RX2) {j : Nat} (hj : j < 37) : ∀ (I : II) (H : Heap) (locs : List Loc) (ls : Array Slot), wp_X2_sumsOfFirst j I Q → PP E s H locs I → lv_has ls 5 [(0, .ref (E.2.1 306)), (1, .ref (E.2.1 (8 * j)))] → W p l e rmX2_sumsOfFirst s m args below meth c H locs 0 0 (MQ below (va_Qi Q (BU E) E.2.2.2.1) args s 0 0 E.2.2.2.1) (F0 m 0 ls []) := by
  obtain ⟨⟨hx, hb, hml, hown, hts⟩, hr, hlk, hK, hST, hN⟩ := id X
  intro I H locs ls h hp hl
  unfold wp_X2_sumsOfFirst at h
  refine lv_iconst (v := (nI 0)) hx hb dX2_sumsOfFirst_0 (by decide) ?_
  refine lv_istore_n (lv' := [(2, .int (nI 0)), (0, .ref (E.2.1 306)), (1, .ref (E.2.1 (8 * j)))]) hx hb dX2_sumsOfFirst_1 rfl hl (by decide) rfl (fun ls hl => ?_)
  refine lv_aload_n hx hb dX2_sumsOfFirst_2 rfl (lv_at hl 2 rfl) ?_
  refine lv_iconst (v := (nI 0)) hx hb dX2_sumsOfFirst_3 (by decide) ?_
  refine ki (kV (As := [.int (nI 0)]) (rest := []) X hp (C_X1_paperAt hj h) tw_ml_X2_90 vf_X1_paperAt ⟨rfl, rfl, Nat.le_of_ble_eq_true rfl, Nat.le_of_ble_eq_true rfl⟩ (pr_rcvb X hp hj) rfl hl.1 rfl (Nat.le_of_ble_eq_true rfl) dX2_sumsOfFirst_4) hp (fun r2 I1 H locs h hp => ?_)
  refine lv_istore_n (lv' := [(3, .int r2), (2, .int (nI 0)), (0, .ref (E.2.1 306)), (1, .ref (E.2.1 (8 * j)))]) hx hb dX2_sumsOfFirst_7 rfl hl (by decide) rfl (fun ls hl => ?_)
  refine lv_iconst (v := (nI 1)) hx hb dX2_sumsOfFirst_8 (by decide) ?_
  refine lv_istore (lv' := [(4, .int (nI 1)), (3, .int r2), (2, .int (nI 0)), (0, .ref (E.2.1 306)), (1, .ref (E.2.1 (8 * j)))]) hx hb dX2_sumsOfFirst_9 hl (by decide) rfl (fun ls hl => ?_)
  obtain ⟨n53, h⟩ := h
  refine w_X2_sumsOfFirst_11 X hj ?_ n53 _ _ _ _ _ _ _ h hp (lv_sub hl [3, 4, 2, 1, 0] rfl)
  · intro x2 I H locs ls h hp hl
    refine lv_iload_n hx hb dX2_sumsOfFirst_65 rfl (lv_at hl 0 rfl) ?_
    exact rt_i X hp h dX2_sumsOfFirst_66
set_option maxRecDepth 100000 in
theorem C_X2_sumsOfFirst {E : EE} {l : Launch} {j : Nat} (hj : j < 37) {I : II} {Q : Int32 → II → Prop} (h : wp_X2_sumsOfFirst j I Q) : Met l yX2_sumsOfFirst (Cond.code yX2_sumsOfFirst cX2_sumsOfFirst 5 (some .int) :: lwT) rmX2_sumsOfFirst (va_Pc [.ref (E.2.1 306), .ref (E.2.1 (8 * j))] (PU E I)) (va_Qi Q (BU E) E.2.2.2.1) 0 0 E.2.2.2.1 :=
  ofWalk [.ref (E.2.1 306), .ref (E.2.1 (8 * j))] (by decide) tw_c_X2_sumsOfFirst (Nat.le_of_ble_eq_true rfl) (fun p e s m below meth c ls X hp hl => w_X2_sumsOfFirst_0 X hj _ _ _ _ h hp hl)
abbrev rmX2_absentPapers : Room := { frames := 5, cells := 0, slots := 0, locals := 111 }
theorem vf_X2_absentPapers : VF yX2_absentPapers RX2 cX2_absentPapers 5 (some .int) 1 := ⟨tw_in_X2, tw_im_X2_absentPapers, tw_se_X2_absentPapers, tw_c_X2_absentPapers, by decide, by decide, by decide +kernel⟩
def wp_X2_absentPapers_72 (j : Nat) (Q : Int32 → II → Prop) (k25 : Int32 → Int32 → II → Prop) (x2 : Int32) (x3 : Int32) (I : II) : Prop := (k25 x2 (x3 + (nI 1)) I)
set_option maxHeartbeats 4000000 in
set_option maxRecDepth 100000 in
theorem w_X2_absentPapers_72 {E : EE} {p : Program} {l : Launch} {e : Env} {s : State} {m : MethodId} {args : Array Value} {below : List Frame} {meth : Method} {c : Code} {Q : Int32 → II → Prop} {k25 : Int32 → Int32 → II → Prop} (X : CX E p s m args meth c cX2_absentPapers 5 (some .int) RX2) {j : Nat} (hj : j < 37) (K25 : ∀ (x2 : Int32) (x3 : Int32) (I : II) (H : Heap) (locs : List Loc) (ls : Array Slot), k25 x2 x3 I → PP E s H locs I → lv_has ls 5 [(0, .ref (E.2.1 306)), (1, .ref (E.2.1 (8 * j))), (2, .int x2), (3, .int x3)] → W p l e rmX2_absentPapers s m args below meth c H locs 0 0 (MQ below (va_Qi Q (BU E) E.2.2.2.1) args s 0 0 E.2.2.2.1) (F0 m 25 ls [])) : ∀ (x2 : Int32) (x3 : Int32) (I : II) (H : Heap) (locs : List Loc) (ls : Array Slot), wp_X2_absentPapers_72 j Q k25 x2 x3 I → PP E s H locs I → lv_has ls 5 [(0, .ref (E.2.1 306)), (1, .ref (E.2.1 (8 * j))), (2, .int x2), (3, .int x3)] → W p l e rmX2_absentPapers s m args below meth c H locs 0 0 (MQ below (va_Qi Q (BU E) E.2.2.2.1) args s 0 0 E.2.2.2.1) (F0 m 72 ls []) := by
  obtain ⟨⟨hx, hb, hml, hown, hts⟩, hr, hlk, hK, hST, hN⟩ := id X
  intro x2 x3 I H locs ls h hp hl
  unfold wp_X2_absentPapers_72 at h
  refine lv_iinc (v := (x3 + (nI 1))) (lv' := [(3, .int (x3 + (nI 1))), (0, .ref (E.2.1 306)), (1, .ref (E.2.1 (8 * j))), (2, .int x2)]) hx hb dX2_absentPapers_72 hl (k := 3) rfl rfl (by decide) rfl (fun ls hl => ?_)
  refine lv_goto (tgt := 25) hx hb dX2_absentPapers_75 (by decide) ?_
  exact K25 _ _ _ _ _ _ h hp (lv_sub hl [1, 2, 3, 0] rfl)
def wp_X2_absentPapers_25 (j : Nat) (Q : Int32 → II → Prop) (k78 : Int32 → II → Prop) : Nat → Int32 → Int32 → II → Prop
  | 0, _, _, _ => False
  | n + 1, x2, x3, I => (((I (8 * j) 7) ≤ x3 → (k78 x2 I)) ∧ (¬ (I (8 * j) 7) ≤ x3 → (wp_X1_takeAll 2 j I (fun I2 => (wp_X1_leave 2 x3 I2 (fun r5 I4 => ((r5 = (-nI 1000000) → (wp_X2_absentPapers_72 j Q (fun x2 x3 I => wp_X2_absentPapers_25 j Q k78 n x2 x3 I) x2 x3 I4)) ∧ (¬ r5 = (-nI 1000000) → (wp_X2_ghostIsAsTold I4 (fun r8 I7 => ((r8 = 0 → (wp_X2_absentPapers_72 j Q (fun x2 x3 I => wp_X2_absentPapers_25 j Q k78 n x2 x3 I) x2 x3 I7)) ∧ (¬ r8 = 0 → (wp_X2_absentPapers_72 j Q (fun x2 x3 I => wp_X2_absentPapers_25 j Q k78 n x2 x3 I) (x2 ||| ((nI 1) <<< (r5 &&& 31))) x3 I7)))))))))))))
set_option maxHeartbeats 4000000 in
set_option maxRecDepth 100000 in
theorem w_X2_absentPapers_25 {E : EE} {p : Program} {l : Launch} {e : Env} {s : State} {m : MethodId} {args : Array Value} {below : List Frame} {meth : Method} {c : Code} {Q : Int32 → II → Prop} {k78 : Int32 → II → Prop} (X : CX E p s m args meth c cX2_absentPapers 5 (some .int) RX2) {j : Nat} (hj : j < 37) (K78 : ∀ (x2 : Int32) (I : II) (H : Heap) (locs : List Loc) (ls : Array Slot), k78 x2 I → PP E s H locs I → lv_has ls 5 [(2, .int x2)] → W p l e rmX2_absentPapers s m args below meth c H locs 0 0 (MQ below (va_Qi Q (BU E) E.2.2.2.1) args s 0 0 E.2.2.2.1) (F0 m 78 ls [])) : ∀ (n : Nat) (x2 : Int32) (x3 : Int32) (I : II) (H : Heap) (locs : List Loc) (ls : Array Slot), wp_X2_absentPapers_25 j Q k78 n x2 x3 I → PP E s H locs I → lv_has ls 5 [(0, .ref (E.2.1 306)), (1, .ref (E.2.1 (8 * j))), (2, .int x2), (3, .int x3)] → W p l e rmX2_absentPapers s m args below meth c H locs 0 0 (MQ below (va_Qi Q (BU E) E.2.2.2.1) args s 0 0 E.2.2.2.1) (F0 m 25 ls []) := by
  obtain ⟨⟨hx, hb, hml, hown, hts⟩, hr, hlk, hK, hST, hN⟩ := id X
  intro n
  induction n with
  | zero =>
    intro x2 x3 I H locs ls h hp hl
    exact False.elim h
  | succ n ih =>
    intro x2 x3 I H locs ls h hp hl
    rw [wp_X2_absentPapers_25.eq_2] at h
    refine lv_iload_n hx hb dX2_absentPapers_25 rfl (lv_at hl 3 rfl) ?_
    refine lv_aload_n hx hb dX2_absentPapers_26 rfl (lv_at hl 1 rfl) ?_
    refine f_X2_38 X hp hj dX2_absentPapers_27 ?_
    refine lv_icmp_ge (tgt := 78) hx hb dX2_absentPapers_30 (by decide) (fun c1 => ?_) (fun c1 => ?_)
    · have h := h.1 c1
      exact K78 _ _ _ _ _ h hp (lv_sub hl [2] rfl)
    · have h := h.2 c1
      refine lv_aload_n hx hb dX2_absentPapers_33 rfl (lv_at hl 0 rfl) ?_
      refine f_X2_12 X hp dX2_absentPapers_34 ?_
      refine lv_aload_n hx hb dX2_absentPapers_37 rfl (lv_at hl 1 rfl) ?_
      refine kv (kV (As := [.ref (E.2.1 (8 * j))]) (rest := []) X hp (C_X1_takeAll (by decide) hj h) tw_ml_X2_22 vf_X1_takeAll ⟨rfl, rfl, Nat.le_of_ble_eq_true rfl, Nat.le_of_ble_eq_true rfl⟩ (pr_rcvb X hp (by decide)) rfl hl.1 rfl (Nat.le_of_ble_eq_true rfl) dX2_absentPapers_38) hp (fun I2 H locs h hp => ?_)
      refine lv_aload_n hx hb dX2_absentPapers_41 rfl (lv_at hl 0 rfl) ?_
      refine f_X2_12 X hp dX2_absentPapers_42 ?_
      refine lv_iload_n hx hb dX2_absentPapers_45 rfl (lv_at hl 3 rfl) ?_
      refine ki (kV (As := [.int x3]) (rest := []) X hp (C_X1_leave (by decide) h) tw_ml_X2_99 vf_X1_leave ⟨rfl, rfl, Nat.le_of_ble_eq_true rfl, Nat.le_of_ble_eq_true rfl⟩ (pr_rcvb X hp (by decide)) rfl hl.1 rfl (Nat.le_of_ble_eq_true rfl) dX2_absentPapers_46) hp (fun r5 I4 H locs h hp => ?_)
      refine lv_istore (lv' := [(4, .int r5), (0, .ref (E.2.1 306)), (1, .ref (E.2.1 (8 * j))), (2, .int x2), (3, .int x3)]) hx hb dX2_absentPapers_49 hl (by decide) rfl (fun ls hl => ?_)
      refine lv_iload hx hb dX2_absentPapers_51 (lv_at hl 0 rfl) ?_
      refine lv_ldc (v := (-nI 1000000)) hx hb hown (hts _ tw_k_X2_34) dX2_absentPapers_53 ?_
      refine lv_icmp_eq (tgt := 72) hx hb dX2_absentPapers_55 (by decide) (fun c6 => ?_) (fun c6 => ?_)
      · have h := h.1 c6
        exact w_X2_absentPapers_72 X hj ih _ _ _ _ _ _ h hp (lv_sub hl [1, 2, 3, 4] rfl)
      · have h := h.2 c6
        refine lv_aload_n hx hb dX2_absentPapers_58 rfl (lv_at hl 1 rfl) ?_
        refine ki (kV (As := []) (rest := []) X hp (C_X2_ghostIsAsTold  h) tw_ml_X2_83 vf_X2_ghostIsAsTold ⟨rfl, rfl, Nat.le_of_ble_eq_true rfl, Nat.le_of_ble_eq_true rfl⟩ (pr_rcv X hp (k := 306) (by decide) (ob_306 _) (q := (RX2, TX2, 4)) rfl) rfl hl.1 rfl (Nat.le_of_ble_eq_true rfl) dX2_absentPapers_59) hp (fun r8 I7 H locs h hp => ?_)
        refine lv_if_eq (tgt := 72) hx hb dX2_absentPapers_62 (by decide) (fun c9 => ?_) (fun c9 => ?_)
        · have h := h.1 c9
          exact w_X2_absentPapers_72 X hj ih _ _ _ _ _ _ h hp (lv_sub hl [1, 2, 3, 4] rfl)
        · have h := h.2 c9
          refine lv_iload_n hx hb dX2_absentPapers_65 rfl (lv_at hl 3 rfl) ?_
          refine lv_iconst (v := (nI 1)) hx hb dX2_absentPapers_66 (by decide) ?_
          refine lv_iload hx hb dX2_absentPapers_67 (lv_at hl 0 rfl) ?_
          refine lv_ishl hx hb dX2_absentPapers_69 ?_
          refine lv_ior hx hb dX2_absentPapers_70 ?_
          refine lv_istore_n (lv' := [(2, .int (x2 ||| ((nI 1) <<< (r5 &&& 31)))), (4, .int r5), (0, .ref (E.2.1 306)), (1, .ref (E.2.1 (8 * j))), (3, .int x3)]) hx hb dX2_absentPapers_71 rfl hl (by decide) rfl (fun ls hl => ?_)
          exact w_X2_absentPapers_72 X hj ih _ _ _ _ _ _ h hp (lv_sub hl [2, 3, 0, 4] rfl)
def wp_X2_absentPapers_22 (j : Nat) (Q : Int32 → II → Prop) (v0 : Int32) (I : II) : Prop := (∃ n51, wp_X2_absentPapers_25 j Q (fun x2 I => (Q x2 I)) n51 v0 (nI 0) I)
set_option maxHeartbeats 4000000 in
set_option maxRecDepth 100000 in
theorem w_X2_absentPapers_22 {E : EE} {p : Program} {l : Launch} {e : Env} {s : State} {m : MethodId} {args : Array Value} {below : List Frame} {meth : Method} {c : Code} {Q : Int32 → II → Prop} (X : CX E p s m args meth c cX2_absentPapers 5 (some .int) RX2) {j : Nat} (hj : j < 37) : ∀ (v0 : Int32) (I : II) (H : Heap) (locs : List Loc) (ls : Array Slot), wp_X2_absentPapers_22 j Q v0 I → PP E s H locs I → lv_has ls 5 [(0, .ref (E.2.1 306)), (1, .ref (E.2.1 (8 * j)))] → W p l e rmX2_absentPapers s m args below meth c H locs 0 0 (MQ below (va_Qi Q (BU E) E.2.2.2.1) args s 0 0 E.2.2.2.1) (F0 m 22 ls [.int v0]) := by
  obtain ⟨⟨hx, hb, hml, hown, hts⟩, hr, hlk, hK, hST, hN⟩ := id X
  intro v0 I H locs ls h hp hl
  unfold wp_X2_absentPapers_22 at h
  refine lv_istore_n (lv' := [(2, .int v0), (0, .ref (E.2.1 306)), (1, .ref (E.2.1 (8 * j)))]) hx hb dX2_absentPapers_22 rfl hl (by decide) rfl (fun ls hl => ?_)
  refine lv_iconst (v := (nI 0)) hx hb dX2_absentPapers_23 (by decide) ?_
  refine lv_istore_n (lv' := [(3, .int (nI 0)), (2, .int v0), (0, .ref (E.2.1 306)), (1, .ref (E.2.1 (8 * j)))]) hx hb dX2_absentPapers_24 rfl hl (by decide) rfl (fun ls hl => ?_)
  obtain ⟨n51, h⟩ := h
  refine w_X2_absentPapers_25 X hj ?_ n51 _ _ _ _ _ _ h hp (lv_sub hl [2, 3, 1, 0] rfl)
  · intro x2 I H locs ls h hp hl
    refine lv_iload_n hx hb dX2_absentPapers_78 rfl (lv_at hl 0 rfl) ?_
    exact rt_i X hp h dX2_absentPapers_79
def wp_X2_absentPapers (j : Nat) (I : II) (Q : Int32 → II → Prop) : Prop := (wp_X1_takeAll 2 j I (fun I1 => (wp_X2_ghostIsAsTold I1 (fun r4 I3 => ((r4 = 0 → (wp_X2_absentPapers_22 j Q (nI 0) I3)) ∧ (¬ r4 = 0 → (wp_X2_absentPapers_22 j Q (nI 128) I3)))))))
set_option maxHeartbeats 4000000 in
set_option maxRecDepth 100000 in
theorem w_X2_absentPapers_0 {E : EE} {p : Program} {l : Launch} {e : Env} {s : State} {m : MethodId} {args : Array Value} {below : List Frame} {meth : Method} {c : Code} {Q : Int32 → II → Prop} (X : CX E p s m args meth c cX2_absentPapers 5 (some .int) RX2) {j : Nat} (hj : j < 37) : ∀ (I : II) (H : Heap) (locs : List Loc) (ls : Array Slot), wp_X2_absentPapers j I Q → PP E s H locs I → lv_has ls 5 [(0, .ref (E.2.1 306)), (1, .ref (E.2.1 (8 * j)))] → W p l e rmX2_absentPapers s m args below meth c H locs 0 0 (MQ below (va_Qi Q (BU E) E.2.2.2.1) args s 0 0 E.2.2.2.1) (F0 m 0 ls []) := by
  obtain ⟨⟨hx, hb, hml, hown, hts⟩, hr, hlk, hK, hST, hN⟩ := id X
  intro I H locs ls h hp hl
  unfold wp_X2_absentPapers at h
  refine lv_aload_n hx hb dX2_absentPapers_0 rfl (lv_at hl 0 rfl) ?_
  refine f_X2_12 X hp dX2_absentPapers_1 ?_
  refine lv_aload_n hx hb dX2_absentPapers_4 rfl (lv_at hl 1 rfl) ?_
  refine kv (kV (As := [.ref (E.2.1 (8 * j))]) (rest := []) X hp (C_X1_takeAll (by decide) hj h) tw_ml_X2_22 vf_X1_takeAll ⟨rfl, rfl, Nat.le_of_ble_eq_true rfl, Nat.le_of_ble_eq_true rfl⟩ (pr_rcvb X hp (by decide)) rfl hl.1 rfl (Nat.le_of_ble_eq_true rfl) dX2_absentPapers_5) hp (fun I1 H locs h hp => ?_)
  refine lv_aload_n hx hb dX2_absentPapers_8 rfl (lv_at hl 0 rfl) ?_
  refine ki (kV (As := []) (rest := []) X hp (C_X2_ghostIsAsTold  h) tw_ml_X2_83 vf_X2_ghostIsAsTold ⟨rfl, rfl, Nat.le_of_ble_eq_true rfl, Nat.le_of_ble_eq_true rfl⟩ (pr_rcv X hp (k := 306) (by decide) (ob_306 _) (q := (RX2, TX2, 4)) rfl) rfl hl.1 rfl (Nat.le_of_ble_eq_true rfl) dX2_absentPapers_9) hp (fun r4 I3 H locs h hp => ?_)
  refine lv_if_eq (tgt := 21) hx hb dX2_absentPapers_12 (by decide) (fun c5 => ?_) (fun c5 => ?_)
  · have h := h.1 c5
    refine lv_iconst (v := (nI 0)) hx hb dX2_absentPapers_21 (by decide) ?_
    exact w_X2_absentPapers_22 X hj  _ _ _ _ _ h hp (lv_sub hl [0, 1] rfl)
  · have h := h.2 c5
    refine lv_sipush (v := (nI 128)) hx hb dX2_absentPapers_15 (by decide) ?_
    refine lv_goto (tgt := 22) hx hb dX2_absentPapers_18 (by decide) ?_
    exact w_X2_absentPapers_22 X hj  _ _ _ _ _ h hp (lv_sub hl [0, 1] rfl)
set_option maxRecDepth 100000 in
theorem C_X2_absentPapers {E : EE} {l : Launch} {j : Nat} (hj : j < 37) {I : II} {Q : Int32 → II → Prop} (h : wp_X2_absentPapers j I Q) : Met l yX2_absentPapers (Cond.code yX2_absentPapers cX2_absentPapers 5 (some .int) :: lwT) rmX2_absentPapers (va_Pc [.ref (E.2.1 306), .ref (E.2.1 (8 * j))] (PU E I)) (va_Qi Q (BU E) E.2.2.2.1) 0 0 E.2.2.2.1 :=
  ofWalk [.ref (E.2.1 306), .ref (E.2.1 (8 * j))] (by decide) tw_c_X2_absentPapers (Nat.le_of_ble_eq_true rfl) (fun p e s m below meth c ls X hp hl => w_X2_absentPapers_0 X hj _ _ _ _ h hp hl)
abbrev rmX7_power : Room := { frames := 0, cells := 0, slots := 0, locals := 0 }
theorem sf_X7_power : SF yX7_power cX7_power 5 (some .long) 2 := ⟨tw_in_X7, tw_st_X7_power, tw_c_X7_power, by decide, by decide, by decide +kernel⟩
def wp_X7_power_5 (Q : Int64 → II → Prop) (k22 : Int64 → II → Prop) : Nat → Int32 → Int32 → Int64 → Int32 → II → Prop
  | 0, _, _, _, _, _ => False
  | n + 1, x0, x1, x2, x4, I => ((x1 ≤ x4 → (k22 x2 I)) ∧ (¬ x1 ≤ x4 → (wp_X7_power_5 Q k22 n x0 x1 (x2 * x0.toInt64) (x4 + (nI 1)) I)))
set_option maxHeartbeats 4000000 in
set_option maxRecDepth 100000 in
theorem w_X7_power_5 {E : EE} {p : Program} {l : Launch} {e : Env} {s : State} {m : MethodId} {args : Array Value} {below : List Frame} {meth : Method} {c : Code} {Q : Int64 → II → Prop} {k22 : Int64 → II → Prop} (X : CX E p s m args meth c cX7_power 5 (some .long) RX7) (K22 : ∀ (x2 : Int64) (I : II) (H : Heap) (locs : List Loc) (ls : Array Slot), k22 x2 I → PP E s H locs I → lv_has ls 5 [(2, .long x2)] → W p l e rmX7_power s m args below meth c H locs 0 0 (MQ below (va_Ql Q (BU E) E.2.2.2.1) args s 0 0 E.2.2.2.1) (F0 m 22 ls [])) : ∀ (n : Nat) (x0 : Int32) (x1 : Int32) (x2 : Int64) (x4 : Int32) (I : II) (H : Heap) (locs : List Loc) (ls : Array Slot), wp_X7_power_5 Q k22 n x0 x1 x2 x4 I → PP E s H locs I → lv_has ls 5 [(0, .int x0), (1, .int x1), (2, .long x2), (4, .int x4)] → W p l e rmX7_power s m args below meth c H locs 0 0 (MQ below (va_Ql Q (BU E) E.2.2.2.1) args s 0 0 E.2.2.2.1) (F0 m 5 ls []) := by
  obtain ⟨⟨hx, hb, hml, hown, hts⟩, hr, hlk, hK, hST, hN⟩ := id X
  intro n
  induction n with
  | zero =>
    intro x0 x1 x2 x4 I H locs ls h hp hl
    exact False.elim h
  | succ n ih =>
    intro x0 x1 x2 x4 I H locs ls h hp hl
    rw [wp_X7_power_5.eq_2] at h
    refine lv_iload hx hb dX7_power_5 (lv_at hl 3 rfl) ?_
    refine lv_iload_n hx hb dX7_power_7 rfl (lv_at hl 1 rfl) ?_
    refine lv_icmp_ge (tgt := 22) hx hb dX7_power_8 (by decide) (fun c1 => ?_) (fun c1 => ?_)
    · have h := h.1 c1
      exact K22 _ _ _ _ _ h hp (lv_sub hl [2] rfl)
    · have h := h.2 c1
      refine lv_lload_n hx hb dX7_power_11 rfl (lv_at hl 2 rfl) ?_
      refine lv_iload_n hx hb dX7_power_12 rfl (lv_at hl 0 rfl) ?_
      refine lv_i2l (v := x0.toInt64) hx hb dX7_power_13 rfl ?_
      refine lv_lmul hx hb dX7_power_14 ?_
      refine lv_lstore_n (lv' := [(2, .long (x2 * x0.toInt64)), (0, .int x0), (1, .int x1), (4, .int x4)]) hx hb dX7_power_15 rfl hl (by decide) rfl (fun ls hl => ?_)
      refine lv_iinc (v := (x4 + (nI 1))) (lv' := [(4, .int (x4 + (nI 1))), (2, .long (x2 * x0.toInt64)), (0, .int x0), (1, .int x1)]) hx hb dX7_power_16 hl (k := 3) rfl rfl (by decide) rfl (fun ls hl => ?_)
      refine lv_goto (tgt := 5) hx hb dX7_power_19 (by decide) ?_
      exact ih _ _ _ _ _ _ _ _ h hp (lv_sub hl [2, 3, 1, 0] rfl)
def wp_X7_power (x0 : Int32) (x1 : Int32) (I : II) (Q : Int64 → II → Prop) : Prop := (∃ n51, wp_X7_power_5 Q (fun x2 I => (Q x2 I)) n51 x0 x1 (lN 1) (nI 0) I)
set_option maxHeartbeats 4000000 in
set_option maxRecDepth 100000 in
theorem w_X7_power_0 {E : EE} {p : Program} {l : Launch} {e : Env} {s : State} {m : MethodId} {args : Array Value} {below : List Frame} {meth : Method} {c : Code} {Q : Int64 → II → Prop} (X : CX E p s m args meth c cX7_power 5 (some .long) RX7) : ∀ (x0 : Int32) (x1 : Int32) (I : II) (H : Heap) (locs : List Loc) (ls : Array Slot), wp_X7_power x0 x1 I Q → PP E s H locs I → lv_has ls 5 [(0, .int x0), (1, .int x1)] → W p l e rmX7_power s m args below meth c H locs 0 0 (MQ below (va_Ql Q (BU E) E.2.2.2.1) args s 0 0 E.2.2.2.1) (F0 m 0 ls []) := by
  obtain ⟨⟨hx, hb, hml, hown, hts⟩, hr, hlk, hK, hST, hN⟩ := id X
  intro x0 x1 I H locs ls h hp hl
  unfold wp_X7_power at h
  refine lv_lconst (v := (lN 1)) hx hb dX7_power_0 (by decide) ?_
  refine lv_lstore_n (lv' := [(2, .long (lN 1)), (0, .int x0), (1, .int x1)]) hx hb dX7_power_1 rfl hl (by decide) rfl (fun ls hl => ?_)
  refine lv_iconst (v := (nI 0)) hx hb dX7_power_2 (by decide) ?_
  refine lv_istore (lv' := [(4, .int (nI 0)), (2, .long (lN 1)), (0, .int x0), (1, .int x1)]) hx hb dX7_power_3 hl (by decide) rfl (fun ls hl => ?_)
  obtain ⟨n51, h⟩ := h
  refine w_X7_power_5 X ?_ n51 _ _ _ _ _ _ _ _ h hp (lv_sub hl [2, 3, 1, 0] rfl)
  · intro x2 I H locs ls h hp hl
    refine lv_lload_n hx hb dX7_power_22 rfl (lv_at hl 0 rfl) ?_
    exact rt_l X hp h dX7_power_23
set_option maxRecDepth 100000 in
theorem C_X7_power {E : EE} {l : Launch} {x0 : Int32} {x1 : Int32} {I : II} {Q : Int64 → II → Prop} (h : wp_X7_power x0 x1 I Q) : Met l yX7_power (Cond.code yX7_power cX7_power 5 (some .long) :: lwT) rmX7_power (va_Pc [.int x0, .int x1] (PU E I)) (va_Ql Q (BU E) E.2.2.2.1) 0 0 E.2.2.2.1 :=
  ofWalk [.int x0, .int x1] (by decide) tw_c_X7_power (Nat.le_of_ble_eq_true rfl) (fun p e s m below meth c ls X hp hl => w_X7_power_0 X _ _ _ _ _ _ h hp hl)
abbrev rmX2_casesAllPaid : Room := { frames := 5, cells := 0, slots := 0, locals := 112 }
theorem vf_X2_casesAllPaid : VF yX2_casesAllPaid RX2 cX2_casesAllPaid 7 (some .long) 2 := ⟨tw_in_X2, tw_im_X2_casesAllPaid, tw_se_X2_casesAllPaid, tw_c_X2_casesAllPaid, by decide, by decide, by decide +kernel⟩
def wp_X2_casesAllPaid_66 (j : Nat) (Q : Int64 → II → Prop) (k40 : Int32 → Int64 → Int32 → Int32 → II → Prop) (x2 : Int32) (x3 : Int64) (x5 : Int32) (x6 : Int32) (I : II) : Prop := (k40 x2 x3 x5 (x6 + (-nI 1)) I)
set_option maxHeartbeats 4000000 in
set_option maxRecDepth 100000 in
theorem w_X2_casesAllPaid_66 {E : EE} {p : Program} {l : Launch} {e : Env} {s : State} {m : MethodId} {args : Array Value} {below : List Frame} {meth : Method} {c : Code} {Q : Int64 → II → Prop} {k40 : Int32 → Int64 → Int32 → Int32 → II → Prop} (X : CX E p s m args meth c cX2_casesAllPaid 7 (some .long) RX2) {j : Nat} (hj : j < 37) (K40 : ∀ (x2 : Int32) (x3 : Int64) (x5 : Int32) (x6 : Int32) (I : II) (H : Heap) (locs : List Loc) (ls : Array Slot), k40 x2 x3 x5 x6 I → PP E s H locs I → lv_has ls 7 [(0, .ref (E.2.1 306)), (1, .ref (E.2.1 (8 * j))), (2, .int x2), (3, .long x3), (5, .int x5), (6, .int x6)] → W p l e rmX2_casesAllPaid s m args below meth c H locs 0 0 (MQ below (va_Ql Q (BU E) E.2.2.2.1) args s 0 0 E.2.2.2.1) (F0 m 40 ls [])) : ∀ (x2 : Int32) (x3 : Int64) (x5 : Int32) (x6 : Int32) (I : II) (H : Heap) (locs : List Loc) (ls : Array Slot), wp_X2_casesAllPaid_66 j Q k40 x2 x3 x5 x6 I → PP E s H locs I → lv_has ls 7 [(0, .ref (E.2.1 306)), (1, .ref (E.2.1 (8 * j))), (2, .int x2), (3, .long x3), (5, .int x5), (6, .int x6)] → W p l e rmX2_casesAllPaid s m args below meth c H locs 0 0 (MQ below (va_Ql Q (BU E) E.2.2.2.1) args s 0 0 E.2.2.2.1) (F0 m 66 ls []) := by
  obtain ⟨⟨hx, hb, hml, hown, hts⟩, hr, hlk, hK, hST, hN⟩ := id X
  intro x2 x3 x5 x6 I H locs ls h hp hl
  unfold wp_X2_casesAllPaid_66 at h
  refine lv_iinc (v := (x6 + (-nI 1))) (lv' := [(6, .int (x6 + (-nI 1))), (0, .ref (E.2.1 306)), (1, .ref (E.2.1 (8 * j))), (2, .int x2), (3, .long x3), (5, .int x5)]) hx hb dX2_casesAllPaid_66 hl (k := 5) rfl rfl (by decide) rfl (fun ls hl => ?_)
  refine lv_goto (tgt := 40) hx hb dX2_casesAllPaid_69 (by decide) ?_
  exact K40 _ _ _ _ _ _ _ _ h hp (lv_sub hl [1, 2, 3, 4, 5, 0] rfl)
def wp_X2_casesAllPaid_40 (j : Nat) (Q : Int64 → II → Prop) (k72 : Int32 → Int64 → Int32 → II → Prop) : Nat → Int32 → Int64 → Int32 → Int32 → II → Prop
  | 0, _, _, _, _, _ => False
  | n + 1, x2, x3, x5, x6, I => ((x6 < 0 → (k72 x2 x3 x5 I)) ∧ (¬ x6 < 0 → ((¬ ((x5 >>> (x6 &&& 31)) &&& (nI 1)) = (nI 1) → (wp_X2_casesAllPaid_66 j Q (fun x2 x3 x5 x6 I => wp_X2_casesAllPaid_40 j Q k72 n x2 x3 x5 x6 I) x2 x3 x5 x6 I)) ∧ (((x5 >>> (x6 &&& 31)) &&& (nI 1)) = (nI 1) → (wp_X1_leave 2 x6 I (fun r4 I3 => (wp_X2_casesAllPaid_66 j Q (fun x2 x3 x5 x6 I => wp_X2_casesAllPaid_40 j Q k72 n x2 x3 x5 x6 I) x2 x3 x5 x6 I3)))))))
set_option maxHeartbeats 4000000 in
set_option maxRecDepth 100000 in
theorem w_X2_casesAllPaid_40 {E : EE} {p : Program} {l : Launch} {e : Env} {s : State} {m : MethodId} {args : Array Value} {below : List Frame} {meth : Method} {c : Code} {Q : Int64 → II → Prop} {k72 : Int32 → Int64 → Int32 → II → Prop} (X : CX E p s m args meth c cX2_casesAllPaid 7 (some .long) RX2) {j : Nat} (hj : j < 37) (K72 : ∀ (x2 : Int32) (x3 : Int64) (x5 : Int32) (I : II) (H : Heap) (locs : List Loc) (ls : Array Slot), k72 x2 x3 x5 I → PP E s H locs I → lv_has ls 7 [(0, .ref (E.2.1 306)), (1, .ref (E.2.1 (8 * j))), (2, .int x2), (3, .long x3), (5, .int x5)] → W p l e rmX2_casesAllPaid s m args below meth c H locs 0 0 (MQ below (va_Ql Q (BU E) E.2.2.2.1) args s 0 0 E.2.2.2.1) (F0 m 72 ls [])) : ∀ (n : Nat) (x2 : Int32) (x3 : Int64) (x5 : Int32) (x6 : Int32) (I : II) (H : Heap) (locs : List Loc) (ls : Array Slot), wp_X2_casesAllPaid_40 j Q k72 n x2 x3 x5 x6 I → PP E s H locs I → lv_has ls 7 [(0, .ref (E.2.1 306)), (1, .ref (E.2.1 (8 * j))), (2, .int x2), (3, .long x3), (5, .int x5), (6, .int x6)] → W p l e rmX2_casesAllPaid s m args below meth c H locs 0 0 (MQ below (va_Ql Q (BU E) E.2.2.2.1) args s 0 0 E.2.2.2.1) (F0 m 40 ls []) := by
  obtain ⟨⟨hx, hb, hml, hown, hts⟩, hr, hlk, hK, hST, hN⟩ := id X
  intro n
  induction n with
  | zero =>
    intro x2 x3 x5 x6 I H locs ls h hp hl
    exact False.elim h
  | succ n ih =>
    intro x2 x3 x5 x6 I H locs ls h hp hl
    rw [wp_X2_casesAllPaid_40.eq_2] at h
    refine lv_iload hx hb dX2_casesAllPaid_40 (lv_at hl 5 rfl) ?_
    refine lv_if_lt (tgt := 72) hx hb dX2_casesAllPaid_42 (by decide) (fun c1 => ?_) (fun c1 => ?_)
    · have h := h.1 c1
      exact K72 _ _ _ _ _ _ _ h hp (lv_sub hl [0, 1, 2, 3, 4] rfl)
    · have h := h.2 c1
      refine lv_iload hx hb dX2_casesAllPaid_45 (lv_at hl 4 rfl) ?_
      refine lv_iload hx hb dX2_casesAllPaid_47 (lv_at hl 5 rfl) ?_
      refine lv_ishr hx hb dX2_casesAllPaid_49 ?_
      refine lv_iconst (v := (nI 1)) hx hb dX2_casesAllPaid_50 (by decide) ?_
      refine lv_iand hx hb dX2_casesAllPaid_51 ?_
      refine lv_iconst (v := (nI 1)) hx hb dX2_casesAllPaid_52 (by decide) ?_
      refine lv_icmp_ne (tgt := 66) hx hb dX2_casesAllPaid_53 (by decide) (fun c2 => ?_) (fun c2 => ?_)
      · have h := h.1 c2
        exact w_X2_casesAllPaid_66 X hj ih _ _ _ _ _ _ _ _ h hp (lv_sub hl [0, 1, 2, 3, 4, 5] rfl)
      · have h := h.2 c2
        refine lv_aload_n hx hb dX2_casesAllPaid_56 rfl (lv_at hl 0 rfl) ?_
        refine f_X2_12 X hp dX2_casesAllPaid_57 ?_
        refine lv_iload hx hb dX2_casesAllPaid_60 (lv_at hl 5 rfl) ?_
        refine ki (kV (As := [.int x6]) (rest := []) X hp (C_X1_leave (by decide) h) tw_ml_X2_99 vf_X1_leave ⟨rfl, rfl, Nat.le_of_ble_eq_true rfl, Nat.le_of_ble_eq_true rfl⟩ (pr_rcvb X hp (by decide)) rfl hl.1 rfl (Nat.le_of_ble_eq_true rfl) dX2_casesAllPaid_62) hp (fun r4 I3 H locs h hp => ?_)
        refine lv_pop hx hb dX2_casesAllPaid_65 rfl ?_
        exact w_X2_casesAllPaid_66 X hj ih _ _ _ _ _ _ _ _ h hp (lv_sub hl [0, 1, 2, 3, 4, 5] rfl)
def wp_X2_casesAllPaid_114 (j : Nat) (Q : Int64 → II → Prop) (k5 : Int32 → Int64 → Int32 → II → Prop) (x2 : Int32) (x3 : Int64) (x5 : Int32) (I : II) : Prop := (k5 x2 x3 (x5 + (nI 1)) I)
set_option maxHeartbeats 4000000 in
set_option maxRecDepth 100000 in
theorem w_X2_casesAllPaid_114 {E : EE} {p : Program} {l : Launch} {e : Env} {s : State} {m : MethodId} {args : Array Value} {below : List Frame} {meth : Method} {c : Code} {Q : Int64 → II → Prop} {k5 : Int32 → Int64 → Int32 → II → Prop} (X : CX E p s m args meth c cX2_casesAllPaid 7 (some .long) RX2) {j : Nat} (hj : j < 37) (K5 : ∀ (x2 : Int32) (x3 : Int64) (x5 : Int32) (I : II) (H : Heap) (locs : List Loc) (ls : Array Slot), k5 x2 x3 x5 I → PP E s H locs I → lv_has ls 7 [(0, .ref (E.2.1 306)), (1, .ref (E.2.1 (8 * j))), (2, .int x2), (3, .long x3), (5, .int x5)] → W p l e rmX2_casesAllPaid s m args below meth c H locs 0 0 (MQ below (va_Ql Q (BU E) E.2.2.2.1) args s 0 0 E.2.2.2.1) (F0 m 5 ls [])) : ∀ (x2 : Int32) (x3 : Int64) (x5 : Int32) (I : II) (H : Heap) (locs : List Loc) (ls : Array Slot), wp_X2_casesAllPaid_114 j Q k5 x2 x3 x5 I → PP E s H locs I → lv_has ls 7 [(0, .ref (E.2.1 306)), (1, .ref (E.2.1 (8 * j))), (2, .int x2), (3, .long x3), (5, .int x5)] → W p l e rmX2_casesAllPaid s m args below meth c H locs 0 0 (MQ below (va_Ql Q (BU E) E.2.2.2.1) args s 0 0 E.2.2.2.1) (F0 m 114 ls []) := by
  obtain ⟨⟨hx, hb, hml, hown, hts⟩, hr, hlk, hK, hST, hN⟩ := id X
  intro x2 x3 x5 I H locs ls h hp hl
  unfold wp_X2_casesAllPaid_114 at h
  refine lv_iinc (v := (x5 + (nI 1))) (lv' := [(5, .int (x5 + (nI 1))), (0, .ref (E.2.1 306)), (1, .ref (E.2.1 (8 * j))), (2, .int x2), (3, .long x3)]) hx hb dX2_casesAllPaid_114 hl (k := 4) rfl rfl (by decide) rfl (fun ls hl => ?_)
  refine lv_goto (tgt := 5) hx hb dX2_casesAllPaid_117 (by decide) ?_
  exact K5 _ _ _ _ _ _ _ h hp (lv_sub hl [1, 2, 3, 4, 0] rfl)
def wp_X2_casesAllPaid_5 (j : Nat) (Q : Int64 → II → Prop) (k120 : Int64 → II → Prop) : Nat → Int32 → Int64 → Int32 → II → Prop
  | 0, _, _, _, _ => False
  | n + 1, x2, x3, x5, I => (((nI 128) ≤ x5 → (k120 x3 I)) ∧ (¬ (nI 128) ≤ x5 → ((((nI 1) <<< ((I (8 * j) 7) &&& 31)) ≤ x5 → (k120 x3 I)) ∧ (¬ ((nI 1) <<< ((I (8 * j) 7) &&& 31)) ≤ x5 → (wp_X1_takeAll 2 j I (fun I3 => (∃ n62, wp_X2_casesAllPaid_40 j Q (fun x2 x3 x5 I => (wp_X2_ghostPaidAhead I (fun r56 I55 => ((¬ r56 = (I (8 * 2) 7) → (wp_X2_casesAllPaid_114 j Q (fun x2 x3 x5 I => wp_X2_casesAllPaid_5 j Q k120 n x2 x3 x5 I) x2 x3 x5 I55)) ∧ (r56 = (I (8 * 2) 7) → (wp_X7_power x2 ((I55 (8 * j) 7) - (I (8 * 2) 7)) I55 (fun r59 I58 => (wp_X7_power ((nI 10) - x2) (I (8 * 2) 7) I58 (fun r61 I60 => (wp_X2_casesAllPaid_114 j Q (fun x2 x3 x5 I => wp_X2_casesAllPaid_5 j Q k120 n x2 x3 x5 I) x2 (x3 + (r59 * r61)) x5 I60)))))))))) n62 x2 x3 x5 ((I3 (8 * j) 7) - (nI 1)) I3)))))))
set_option maxHeartbeats 4000000 in
set_option maxRecDepth 100000 in
theorem w_X2_casesAllPaid_5 {E : EE} {p : Program} {l : Launch} {e : Env} {s : State} {m : MethodId} {args : Array Value} {below : List Frame} {meth : Method} {c : Code} {Q : Int64 → II → Prop} {k120 : Int64 → II → Prop} (X : CX E p s m args meth c cX2_casesAllPaid 7 (some .long) RX2) {j : Nat} (hj : j < 37) (K120 : ∀ (x3 : Int64) (I : II) (H : Heap) (locs : List Loc) (ls : Array Slot), k120 x3 I → PP E s H locs I → lv_has ls 7 [(3, .long x3)] → W p l e rmX2_casesAllPaid s m args below meth c H locs 0 0 (MQ below (va_Ql Q (BU E) E.2.2.2.1) args s 0 0 E.2.2.2.1) (F0 m 120 ls [])) : ∀ (n : Nat) (x2 : Int32) (x3 : Int64) (x5 : Int32) (I : II) (H : Heap) (locs : List Loc) (ls : Array Slot), wp_X2_casesAllPaid_5 j Q k120 n x2 x3 x5 I → PP E s H locs I → lv_has ls 7 [(0, .ref (E.2.1 306)), (1, .ref (E.2.1 (8 * j))), (2, .int x2), (3, .long x3), (5, .int x5)] → W p l e rmX2_casesAllPaid s m args below meth c H locs 0 0 (MQ below (va_Ql Q (BU E) E.2.2.2.1) args s 0 0 E.2.2.2.1) (F0 m 5 ls []) := by
  obtain ⟨⟨hx, hb, hml, hown, hts⟩, hr, hlk, hK, hST, hN⟩ := id X
  intro n
  induction n with
  | zero =>
    intro x2 x3 x5 I H locs ls h hp hl
    exact False.elim h
  | succ n ih =>
    intro x2 x3 x5 I H locs ls h hp hl
    rw [wp_X2_casesAllPaid_5.eq_2] at h
    refine lv_iload hx hb dX2_casesAllPaid_5 (lv_at hl 4 rfl) ?_
    refine lv_sipush (v := (nI 128)) hx hb dX2_casesAllPaid_7 (by decide) ?_
    refine lv_icmp_ge (tgt := 120) hx hb dX2_casesAllPaid_10 (by decide) (fun c1 => ?_) (fun c1 => ?_)
    · have h := h.1 c1
      exact K120 _ _ _ _ _ h hp (lv_sub hl [3] rfl)
    · have h := h.2 c1
      refine lv_iload hx hb dX2_casesAllPaid_13 (lv_at hl 4 rfl) ?_
      refine lv_iconst (v := (nI 1)) hx hb dX2_casesAllPaid_15 (by decide) ?_
      refine lv_aload_n hx hb dX2_casesAllPaid_16 rfl (lv_at hl 1 rfl) ?_
      refine f_X2_38 X hp hj dX2_casesAllPaid_17 ?_
      refine lv_ishl hx hb dX2_casesAllPaid_20 ?_
      refine lv_icmp_ge (tgt := 120) hx hb dX2_casesAllPaid_21 (by decide) (fun c2 => ?_) (fun c2 => ?_)
      · have h := h.1 c2
        exact K120 _ _ _ _ _ h hp (lv_sub hl [3] rfl)
      · have h := h.2 c2
        refine lv_aload_n hx hb dX2_casesAllPaid_24 rfl (lv_at hl 0 rfl) ?_
        refine f_X2_12 X hp dX2_casesAllPaid_25 ?_
        refine lv_aload_n hx hb dX2_casesAllPaid_28 rfl (lv_at hl 1 rfl) ?_
        refine kv (kV (As := [.ref (E.2.1 (8 * j))]) (rest := []) X hp (C_X1_takeAll (by decide) hj h) tw_ml_X2_22 vf_X1_takeAll ⟨rfl, rfl, Nat.le_of_ble_eq_true rfl, Nat.le_of_ble_eq_true rfl⟩ (pr_rcvb X hp (by decide)) rfl hl.1 rfl (Nat.le_of_ble_eq_true rfl) dX2_casesAllPaid_29) hp (fun I3 H locs h hp => ?_)
        refine lv_aload_n hx hb dX2_casesAllPaid_32 rfl (lv_at hl 1 rfl) ?_
        refine f_X2_38 X hp hj dX2_casesAllPaid_33 ?_
        refine lv_iconst (v := (nI 1)) hx hb dX2_casesAllPaid_36 (by decide) ?_
        refine lv_isub hx hb dX2_casesAllPaid_37 ?_
        refine lv_istore (lv' := [(6, .int ((I3 (8 * j) 7) - (nI 1))), (0, .ref (E.2.1 306)), (1, .ref (E.2.1 (8 * j))), (2, .int x2), (3, .long x3), (5, .int x5)]) hx hb dX2_casesAllPaid_38 hl (by decide) rfl (fun ls hl => ?_)
        obtain ⟨n62, h⟩ := h
        refine w_X2_casesAllPaid_40 X hj ?_ n62 _ _ _ _ _ _ _ _ h hp (lv_sub hl [1, 2, 3, 4, 5, 0] rfl)
        · intro x2 x3 x5 I H locs ls h hp hl
          refine lv_aload_n hx hb dX2_casesAllPaid_72 rfl (lv_at hl 0 rfl) ?_
          refine f_X2_12 X hp dX2_casesAllPaid_73 ?_
          refine f_X2_38 X hp (by decide) dX2_casesAllPaid_76 ?_
          refine lv_istore (lv' := [(6, .int (I (8 * 2) 7)), (0, .ref (E.2.1 306)), (1, .ref (E.2.1 (8 * j))), (2, .int x2), (3, .long x3), (5, .int x5)]) hx hb dX2_casesAllPaid_79 hl (by decide) rfl (fun ls hl => ?_)
          refine lv_aload_n hx hb dX2_casesAllPaid_81 rfl (lv_at hl 1 rfl) ?_
          refine ki (kV (As := []) (rest := []) X hp (C_X2_ghostPaidAhead  h) tw_ml_X2_35 vf_X2_ghostPaidAhead ⟨rfl, rfl, Nat.le_of_ble_eq_true rfl, Nat.le_of_ble_eq_true rfl⟩ (pr_rcv X hp (k := 306) (by decide) (ob_306 _) (q := (RX2, TX2, 4)) rfl) rfl hl.1 rfl (Nat.le_of_ble_eq_true rfl) dX2_casesAllPaid_82) hp (fun r56 I55 H locs h hp => ?_)
          refine lv_iload hx hb dX2_casesAllPaid_85 (lv_at hl 0 rfl) ?_
          refine lv_icmp_ne (tgt := 114) hx hb dX2_casesAllPaid_87 (by decide) (fun c57 => ?_) (fun c57 => ?_)
          · have h := h.1 c57
            exact w_X2_casesAllPaid_114 X hj ih _ _ _ _ _ _ _ h hp (lv_sub hl [1, 2, 3, 4, 5] rfl)
          · have h := h.2 c57
            refine lv_lload_n hx hb dX2_casesAllPaid_90 rfl (lv_at hl 4 rfl) ?_
            refine lv_iload_n hx hb dX2_casesAllPaid_91 rfl (lv_at hl 3 rfl) ?_
            refine lv_aload_n hx hb dX2_casesAllPaid_92 rfl (lv_at hl 2 rfl) ?_
            refine f_X2_38 X hp hj dX2_casesAllPaid_93 ?_
            refine lv_iload hx hb dX2_casesAllPaid_96 (lv_at hl 0 rfl) ?_
            refine lv_isub hx hb dX2_casesAllPaid_98 ?_
            refine kl (kSN (As := [.int x2, .int ((I55 (8 * j) 7) - (I (8 * 2) 7))]) (rest := [.long x3]) X hp (C_X7_power  h) (List.mem_of_getElem? (i := 10) rfl) sf_X7_power ⟨rfl, rfl, Nat.le_of_ble_eq_true rfl, Nat.le_of_ble_eq_true rfl⟩ rfl hl.1 rfl (Nat.le_of_ble_eq_true rfl) dX2_casesAllPaid_99) hp (fun r59 I58 H locs h hp => ?_)
            refine lv_bipush (v := (nI 10)) hx hb dX2_casesAllPaid_102 (by decide) ?_
            refine lv_iload_n hx hb dX2_casesAllPaid_104 rfl (lv_at hl 3 rfl) ?_
            refine lv_isub hx hb dX2_casesAllPaid_105 ?_
            refine lv_iload hx hb dX2_casesAllPaid_106 (lv_at hl 0 rfl) ?_
            refine kl (kSN (As := [.int ((nI 10) - x2), .int (I (8 * 2) 7)]) (rest := [.long r59, .long x3]) X hp (C_X7_power  h) (List.mem_of_getElem? (i := 10) rfl) sf_X7_power ⟨rfl, rfl, Nat.le_of_ble_eq_true rfl, Nat.le_of_ble_eq_true rfl⟩ rfl hl.1 rfl (Nat.le_of_ble_eq_true rfl) dX2_casesAllPaid_108) hp (fun r61 I60 H locs h hp => ?_)
            refine lv_lmul hx hb dX2_casesAllPaid_111 ?_
            refine lv_ladd hx hb dX2_casesAllPaid_112 ?_
            refine lv_lstore_n (lv' := [(3, .long (x3 + (r59 * r61))), (6, .int (I (8 * 2) 7)), (0, .ref (E.2.1 306)), (1, .ref (E.2.1 (8 * j))), (2, .int x2), (5, .int x5)]) hx hb dX2_casesAllPaid_113 rfl hl (by decide) rfl (fun ls hl => ?_)
            exact w_X2_casesAllPaid_114 X hj ih _ _ _ _ _ _ _ h hp (lv_sub hl [2, 3, 4, 0, 5] rfl)
def wp_X2_casesAllPaid (j : Nat) (x2 : Int32) (I : II) (Q : Int64 → II → Prop) : Prop := (∃ n51, wp_X2_casesAllPaid_5 j Q (fun x3 I => (Q x3 I)) n51 x2 (lN 0) (nI 0) I)
set_option maxHeartbeats 4000000 in
set_option maxRecDepth 100000 in
theorem w_X2_casesAllPaid_0 {E : EE} {p : Program} {l : Launch} {e : Env} {s : State} {m : MethodId} {args : Array Value} {below : List Frame} {meth : Method} {c : Code} {Q : Int64 → II → Prop} (X : CX E p s m args meth c cX2_casesAllPaid 7 (some .long) RX2) {j : Nat} (hj : j < 37) : ∀ (x2 : Int32) (I : II) (H : Heap) (locs : List Loc) (ls : Array Slot), wp_X2_casesAllPaid j x2 I Q → PP E s H locs I → lv_has ls 7 [(0, .ref (E.2.1 306)), (1, .ref (E.2.1 (8 * j))), (2, .int x2)] → W p l e rmX2_casesAllPaid s m args below meth c H locs 0 0 (MQ below (va_Ql Q (BU E) E.2.2.2.1) args s 0 0 E.2.2.2.1) (F0 m 0 ls []) := by
  obtain ⟨⟨hx, hb, hml, hown, hts⟩, hr, hlk, hK, hST, hN⟩ := id X
  intro x2 I H locs ls h hp hl
  unfold wp_X2_casesAllPaid at h
  refine lv_lconst (v := (lN 0)) hx hb dX2_casesAllPaid_0 (by decide) ?_
  refine lv_lstore_n (lv' := [(3, .long (lN 0)), (0, .ref (E.2.1 306)), (1, .ref (E.2.1 (8 * j))), (2, .int x2)]) hx hb dX2_casesAllPaid_1 rfl hl (by decide) rfl (fun ls hl => ?_)
  refine lv_iconst (v := (nI 0)) hx hb dX2_casesAllPaid_2 (by decide) ?_
  refine lv_istore (lv' := [(5, .int (nI 0)), (3, .long (lN 0)), (0, .ref (E.2.1 306)), (1, .ref (E.2.1 (8 * j))), (2, .int x2)]) hx hb dX2_casesAllPaid_3 hl (by decide) rfl (fun ls hl => ?_)
  obtain ⟨n51, h⟩ := h
  refine w_X2_casesAllPaid_5 X hj ?_ n51 _ _ _ _ _ _ _ h hp (lv_sub hl [2, 3, 4, 1, 0] rfl)
  · intro x3 I H locs ls h hp hl
    refine lv_lload_n hx hb dX2_casesAllPaid_120 rfl (lv_at hl 0 rfl) ?_
    exact rt_l X hp h dX2_casesAllPaid_121
set_option maxRecDepth 100000 in
theorem C_X2_casesAllPaid {E : EE} {l : Launch} {j : Nat} (hj : j < 37) {x2 : Int32} {I : II} {Q : Int64 → II → Prop} (h : wp_X2_casesAllPaid j x2 I Q) : Met l yX2_casesAllPaid (Cond.code yX2_casesAllPaid cX2_casesAllPaid 7 (some .long) :: lwT) rmX2_casesAllPaid (va_Pc [.ref (E.2.1 306), .ref (E.2.1 (8 * j)), .int x2] (PU E I)) (va_Ql Q (BU E) E.2.2.2.1) 0 0 E.2.2.2.1 :=
  ofWalk [.ref (E.2.1 306), .ref (E.2.1 (8 * j)), .int x2] (by decide) tw_c_X2_casesAllPaid (Nat.le_of_ble_eq_true rfl) (fun p e s m below meth c ls X hp hl => w_X2_casesAllPaid_0 X hj _ _ _ _ _ h hp hl)
abbrev rmX2_weeks : Room := { frames := 4, cells := 0, slots := 0, locals := 90 }
theorem vf_X2_weeks : VF yX2_weeks RX2 cX2_weeks 7 (some (.object "TellerDays$Bank")) 3 := ⟨tw_in_X2, tw_im_X2_weeks, tw_se_X2_weeks, tw_c_X2_weeks, by decide, by decide, by decide +kernel⟩
def wp_X2_weeks_53 (j : Nat) (Q : II → Prop) (k15 : Int32 → Int64 → Int32 → II → Prop) (x2 : Int32) (x4 : Int64) (x6 : Int32) (v0 : Int32) (I : II) : Prop := (¬ (lN 30) = 0 ∧ (wp_X1_join 2 v0 ((x4 - x4 / (lN 30) * (lN 30)).toInt32 + (nI 1)) I (fun r3 I2 => (wp_X1_passTurn 2 I2 (fun r5 I4 => (k15 x2 x4 (x6 + (nI 1)) I4))))))
set_option maxHeartbeats 4000000 in
set_option maxRecDepth 100000 in
theorem w_X2_weeks_53 {E : EE} {p : Program} {l : Launch} {e : Env} {s : State} {m : MethodId} {args : Array Value} {below : List Frame} {meth : Method} {c : Code} {Q : II → Prop} {k15 : Int32 → Int64 → Int32 → II → Prop} (X : CX E p s m args meth c cX2_weeks 7 (some (.object "TellerDays$Bank")) RX2) {j : Nat} (hj : j < 37) (K15 : ∀ (x2 : Int32) (x4 : Int64) (x6 : Int32) (I : II) (H : Heap) (locs : List Loc) (ls : Array Slot), k15 x2 x4 x6 I → PP E s H locs I → lv_has ls 7 [(0, .ref (E.2.1 306)), (2, .int x2), (4, .long x4), (6, .int x6)] → W p l e rmX2_weeks s m args below meth c H locs 0 0 (MQ below (va_Qr Q (BR E 2) E.2.2.2.1) args s 0 0 E.2.2.2.1) (F0 m 15 ls [])) : ∀ (x2 : Int32) (x4 : Int64) (x6 : Int32) (v0 : Int32) (I : II) (H : Heap) (locs : List Loc) (ls : Array Slot), wp_X2_weeks_53 j Q k15 x2 x4 x6 v0 I → PP E s H locs I → lv_has ls 7 [(0, .ref (E.2.1 306)), (2, .int x2), (4, .long x4), (6, .int x6)] → W p l e rmX2_weeks s m args below meth c H locs 0 0 (MQ below (va_Qr Q (BR E 2) E.2.2.2.1) args s 0 0 E.2.2.2.1) (F0 m 53 ls [.int v0, .ref (E.2.1 (8 * 2))]) := by
  obtain ⟨⟨hx, hb, hml, hown, hts⟩, hr, hlk, hK, hST, hN⟩ := id X
  intro x2 x4 x6 v0 I H locs ls h hp hl
  unfold wp_X2_weeks_53 at h
  refine lv_lload hx hb dX2_weeks_53 (lv_at hl 2 rfl) ?_
  refine lv_ldc2 (v := (lN 30)) hx hb hown (hts _ tw_kl_X2_112) dX2_weeks_55 ?_
  have hz1 := h.1
  have h := h.2
  refine lv_lrem hx hb dX2_weeks_58 hz1 ?_
  refine lv_l2i (v := (x4 - x4 / (lN 30) * (lN 30)).toInt32) hx hb dX2_weeks_59 rfl ?_
  refine lv_iconst (v := (nI 1)) hx hb dX2_weeks_60 (by decide) ?_
  refine lv_iadd hx hb dX2_weeks_61 ?_
  refine ki (kV (As := [.int v0, .int ((x4 - x4 / (lN 30) * (lN 30)).toInt32 + (nI 1))]) (rest := []) X hp (C_X1_join (by decide) h) tw_ml_X2_114 vf_X1_join ⟨rfl, rfl, Nat.le_of_ble_eq_true rfl, Nat.le_of_ble_eq_true rfl⟩ (pr_rcvb X hp (by decide)) rfl hl.1 rfl (Nat.le_of_ble_eq_true rfl) dX2_weeks_62) hp (fun r3 I2 H locs h hp => ?_)
  refine lv_pop hx hb dX2_weeks_65 rfl ?_
  refine lv_aload_n hx hb dX2_weeks_66 rfl (lv_at hl 0 rfl) ?_
  refine f_X2_12 X hp dX2_weeks_67 ?_
  refine ki (kV (As := []) (rest := []) X hp (C_X1_passTurn (by decide) h) tw_ml_X2_26 vf_X1_passTurn ⟨rfl, rfl, Nat.le_of_ble_eq_true rfl, Nat.le_of_ble_eq_true rfl⟩ (pr_rcvb X hp (by decide)) rfl hl.1 rfl (Nat.le_of_ble_eq_true rfl) dX2_weeks_70) hp (fun r5 I4 H locs h hp => ?_)
  refine lv_pop hx hb dX2_weeks_73 rfl ?_
  refine lv_iinc (v := (x6 + (nI 1))) (lv' := [(6, .int (x6 + (nI 1))), (0, .ref (E.2.1 306)), (2, .int x2), (4, .long x4)]) hx hb dX2_weeks_74 hl (k := 3) rfl rfl (by decide) rfl (fun ls hl => ?_)
  refine lv_goto (tgt := 15) hx hb dX2_weeks_77 (by decide) ?_
  exact K15 _ _ _ _ _ _ _ h hp (lv_sub hl [1, 2, 3, 0] rfl)
def wp_X2_weeks_15 (j : Nat) (Q : II → Prop) (k80 : II → Prop) : Nat → Int32 → Int64 → Int32 → II → Prop
  | 0, _, _, _, _ => False
  | n + 1, x2, x4, x6, I => ((x2 ≤ x6 → (k80 I)) ∧ (¬ x2 ≤ x6 → (¬ (lN 2147483647) = 0 ∧ (¬ (lN 3) = 0 ∧ (((lg_cmp (((x4 * (lN 16807)) - (x4 * (lN 16807)) / (lN 2147483647) * (lN 2147483647)) - ((x4 * (lN 16807)) - (x4 * (lN 16807)) / (lN 2147483647) * (lN 2147483647)) / (lN 3) * (lN 3)) (lN 0)) = 0 → (wp_X2_weeks_53 j Q (fun x2 x4 x6 I => wp_X2_weeks_15 j Q k80 n x2 x4 x6 I) x2 ((x4 * (lN 16807)) - (x4 * (lN 16807)) / (lN 2147483647) * (lN 2147483647)) x6 (nI 0) I)) ∧ (¬ (lg_cmp (((x4 * (lN 16807)) - (x4 * (lN 16807)) / (lN 2147483647) * (lN 2147483647)) - ((x4 * (lN 16807)) - (x4 * (lN 16807)) / (lN 2147483647) * (lN 2147483647)) / (lN 3) * (lN 3)) (lN 0)) = 0 → (wp_X2_weeks_53 j Q (fun x2 x4 x6 I => wp_X2_weeks_15 j Q k80 n x2 x4 x6 I) x2 ((x4 * (lN 16807)) - (x4 * (lN 16807)) / (lN 2147483647) * (lN 2147483647)) x6 (nI 1) I)))))))
set_option maxHeartbeats 4000000 in
set_option maxRecDepth 100000 in
theorem w_X2_weeks_15 {E : EE} {p : Program} {l : Launch} {e : Env} {s : State} {m : MethodId} {args : Array Value} {below : List Frame} {meth : Method} {c : Code} {Q : II → Prop} {k80 : II → Prop} (X : CX E p s m args meth c cX2_weeks 7 (some (.object "TellerDays$Bank")) RX2) {j : Nat} (hj : j < 37) (K80 : ∀ (I : II) (H : Heap) (locs : List Loc) (ls : Array Slot), k80 I → PP E s H locs I → lv_has ls 7 [(0, .ref (E.2.1 306))] → W p l e rmX2_weeks s m args below meth c H locs 0 0 (MQ below (va_Qr Q (BR E 2) E.2.2.2.1) args s 0 0 E.2.2.2.1) (F0 m 80 ls [])) : ∀ (n : Nat) (x2 : Int32) (x4 : Int64) (x6 : Int32) (I : II) (H : Heap) (locs : List Loc) (ls : Array Slot), wp_X2_weeks_15 j Q k80 n x2 x4 x6 I → PP E s H locs I → lv_has ls 7 [(0, .ref (E.2.1 306)), (2, .int x2), (4, .long x4), (6, .int x6)] → W p l e rmX2_weeks s m args below meth c H locs 0 0 (MQ below (va_Qr Q (BR E 2) E.2.2.2.1) args s 0 0 E.2.2.2.1) (F0 m 15 ls []) := by
  obtain ⟨⟨hx, hb, hml, hown, hts⟩, hr, hlk, hK, hST, hN⟩ := id X
  intro n
  induction n with
  | zero =>
    intro x2 x4 x6 I H locs ls h hp hl
    exact False.elim h
  | succ n ih =>
    intro x2 x4 x6 I H locs ls h hp hl
    rw [wp_X2_weeks_15.eq_2] at h
    refine lv_iload hx hb dX2_weeks_15 (lv_at hl 3 rfl) ?_
    refine lv_iload_n hx hb dX2_weeks_17 rfl (lv_at hl 1 rfl) ?_
    refine lv_icmp_ge (tgt := 80) hx hb dX2_weeks_18 (by decide) (fun c1 => ?_) (fun c1 => ?_)
    · have h := h.1 c1
      exact K80 _ _ _ _ h hp (lv_sub hl [0] rfl)
    · have h := h.2 c1
      refine lv_lload hx hb dX2_weeks_21 (lv_at hl 2 rfl) ?_
      refine lv_ldc2 (v := (lN 16807)) hx hb hown (hts _ tw_kl_X2_106) dX2_weeks_23 ?_
      refine lv_lmul hx hb dX2_weeks_26 ?_
      refine lv_ldc2 (v := (lN 2147483647)) hx hb hown (hts _ tw_kl_X2_108) dX2_weeks_27 ?_
      have hz2 := h.1
      have h := h.2
      refine lv_lrem hx hb dX2_weeks_30 hz2 ?_
      refine lv_lstore (lv' := [(4, .long ((x4 * (lN 16807)) - (x4 * (lN 16807)) / (lN 2147483647) * (lN 2147483647))), (0, .ref (E.2.1 306)), (2, .int x2), (6, .int x6)]) hx hb dX2_weeks_31 hl (by decide) rfl (fun ls hl => ?_)
      refine lv_aload_n hx hb dX2_weeks_33 rfl (lv_at hl 1 rfl) ?_
      refine f_X2_12 X hp dX2_weeks_34 ?_
      refine lv_lload hx hb dX2_weeks_37 (lv_at hl 0 rfl) ?_
      refine lv_ldc2 (v := (lN 3)) hx hb hown (hts _ tw_kl_X2_110) dX2_weeks_39 ?_
      have hz3 := h.1
      have h := h.2
      refine lv_lrem hx hb dX2_weeks_42 hz3 ?_
      refine lv_lconst (v := (lN 0)) hx hb dX2_weeks_43 (by decide) ?_
      refine W.lcmp hx hb dX2_weeks_44 ?_
      refine lv_if_eq (tgt := 52) hx hb dX2_weeks_45 (by decide) (fun c4 => ?_) (fun c4 => ?_)
      · have h := h.1 c4
        refine lv_iconst (v := (nI 0)) hx hb dX2_weeks_52 (by decide) ?_
        exact w_X2_weeks_53 X hj ih _ _ _ _ _ _ _ _ h hp (lv_sub hl [1, 2, 0, 3] rfl)
      · have h := h.2 c4
        refine lv_iconst (v := (nI 1)) hx hb dX2_weeks_48 (by decide) ?_
        refine lv_goto (tgt := 53) hx hb dX2_weeks_49 (by decide) ?_
        exact w_X2_weeks_53 X hj ih _ _ _ _ _ _ _ _ h hp (lv_sub hl [1, 2, 0, 3] rfl)
def wp_X2_weeks (j : Nat) (x2 : Int32) (x3 : Int32) (I : II) (Q : II → Prop) : Prop := (wp_X1_takeAll 2 j I (fun I1 => (∃ n53, wp_X2_weeks_15 j Q (fun I => (Q I)) n53 x2 x3.toInt64 (nI 0) I1)))
set_option maxHeartbeats 4000000 in
set_option maxRecDepth 100000 in
theorem w_X2_weeks_0 {E : EE} {p : Program} {l : Launch} {e : Env} {s : State} {m : MethodId} {args : Array Value} {below : List Frame} {meth : Method} {c : Code} {Q : II → Prop} (X : CX E p s m args meth c cX2_weeks 7 (some (.object "TellerDays$Bank")) RX2) {j : Nat} (hj : j < 37) : ∀ (x2 : Int32) (x3 : Int32) (I : II) (H : Heap) (locs : List Loc) (ls : Array Slot), wp_X2_weeks j x2 x3 I Q → PP E s H locs I → lv_has ls 7 [(0, .ref (E.2.1 306)), (1, .ref (E.2.1 (8 * j))), (2, .int x2), (3, .int x3)] → W p l e rmX2_weeks s m args below meth c H locs 0 0 (MQ below (va_Qr Q (BR E 2) E.2.2.2.1) args s 0 0 E.2.2.2.1) (F0 m 0 ls []) := by
  obtain ⟨⟨hx, hb, hml, hown, hts⟩, hr, hlk, hK, hST, hN⟩ := id X
  intro x2 x3 I H locs ls h hp hl
  unfold wp_X2_weeks at h
  refine lv_iload_n hx hb dX2_weeks_0 rfl (lv_at hl 3 rfl) ?_
  refine lv_i2l (v := x3.toInt64) hx hb dX2_weeks_1 rfl ?_
  refine lv_lstore (lv' := [(4, .long x3.toInt64), (0, .ref (E.2.1 306)), (1, .ref (E.2.1 (8 * j))), (2, .int x2), (3, .int x3)]) hx hb dX2_weeks_2 hl (by decide) rfl (fun ls hl => ?_)
  refine lv_aload_n hx hb dX2_weeks_4 rfl (lv_at hl 1 rfl) ?_
  refine f_X2_12 X hp dX2_weeks_5 ?_
  refine lv_aload_n hx hb dX2_weeks_8 rfl (lv_at hl 2 rfl) ?_
  refine kv (kV (As := [.ref (E.2.1 (8 * j))]) (rest := []) X hp (C_X1_takeAll (by decide) hj h) tw_ml_X2_22 vf_X1_takeAll ⟨rfl, rfl, Nat.le_of_ble_eq_true rfl, Nat.le_of_ble_eq_true rfl⟩ (pr_rcvb X hp (by decide)) rfl hl.1 rfl (Nat.le_of_ble_eq_true rfl) dX2_weeks_9) hp (fun I1 H locs h hp => ?_)
  refine lv_iconst (v := (nI 0)) hx hb dX2_weeks_12 (by decide) ?_
  refine lv_istore (lv' := [(6, .int (nI 0)), (4, .long x3.toInt64), (0, .ref (E.2.1 306)), (1, .ref (E.2.1 (8 * j))), (2, .int x2), (3, .int x3)]) hx hb dX2_weeks_13 hl (by decide) rfl (fun ls hl => ?_)
  obtain ⟨n53, h⟩ := h
  refine w_X2_weeks_15 X hj ?_ n53 _ _ _ _ _ _ _ h hp (lv_sub hl [2, 4, 1, 0] rfl)
  · intro I H locs ls h hp hl
    refine lv_aload_n hx hb dX2_weeks_80 rfl (lv_at hl 0 rfl) ?_
    refine f_X2_12 X hp dX2_weeks_81 ?_
    exact rt_r X hp h dX2_weeks_84
set_option maxRecDepth 100000 in
theorem C_X2_weeks {E : EE} {l : Launch} {j : Nat} (hj : j < 37) {x2 : Int32} {x3 : Int32} {I : II} {Q : II → Prop} (h : wp_X2_weeks j x2 x3 I Q) : Met l yX2_weeks (Cond.code yX2_weeks cX2_weeks 7 (some (.object "TellerDays$Bank")) :: lwT) rmX2_weeks (va_Pc [.ref (E.2.1 306), .ref (E.2.1 (8 * j)), .int x2, .int x3] (PU E I)) (va_Qr Q (BR E 2) E.2.2.2.1) 0 0 E.2.2.2.1 :=
  ofWalk [.ref (E.2.1 306), .ref (E.2.1 (8 * j)), .int x2, .int x3] (by decide) tw_c_X2_weeks (Nat.le_of_ble_eq_true rfl) (fun p e s m below meth c ls X hp hl => w_X2_weeks_0 X hj _ _ _ _ _ _ h hp hl)

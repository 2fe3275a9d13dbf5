abbrev rmX8_in : Room := { frames := 0, cells := 0, slots := 0, locals := 0 }
theorem sf_X8_in : SF yX8_in cX8_in 6 (some .boolean) 3 := ⟨tw_in_X8, tw_st_X8_in, tw_c_X8_in, by decide, by decide, by decide +kernel⟩
def wp_X8_in (x0 : Int64) (x2 : Int64) (x4 : Int64) (I : II) (Q : Int32 → II → Prop) : Prop := (((lg_cmp x0 x2) < 0 → (Q (nI 0) I)) ∧ (¬ (lg_cmp x0 x2) < 0 → ((0 < (lg_cmp x0 x4) → (Q (nI 0) I)) ∧ (¬ 0 < (lg_cmp x0 x4) → (Q (nI 1) I)))))
set_option maxHeartbeats 4000000 in
set_option maxRecDepth 100000 in
theorem w_X8_in_0 {E : EE} {p : Program} {l : Launch} {e : Env} {s : State} {m : MethodId} {args : Array Value} {below : List Frame} {meth : Method} {c : Code} {Q : Int32 → II → Prop} (X : CX E p s m args meth c cX8_in 6 (some .boolean) RX8) : ∀ (x0 : Int64) (x2 : Int64) (x4 : Int64) (I : II) (H : Heap) (locs : List Loc) (ls : Array Slot), wp_X8_in x0 x2 x4 I Q → PP E s H locs I → lv_has ls 6 [(0, .long x0), (2, .long x2), (4, .long x4)] → W p l e rmX8_in s m args below meth c H locs 0 0 (MQ below (va_Qi Q (BU E) E.2.2.2.1) args s 0 0 E.2.2.2.1) (F0 m 0 ls []) := by
  obtain ⟨⟨hx, hb, hml, hown, hts⟩, hr, hlk, hK, hST, hN⟩ := id X
  intro x0 x2 x4 I H locs ls h hp hl
  unfold wp_X8_in at h
  refine lv_lload_n hx hb dX8_in_0 rfl (lv_at hl 0 rfl) ?_
  refine lv_lload_n hx hb dX8_in_1 rfl (lv_at hl 1 rfl) ?_
  refine W.lcmp hx hb dX8_in_2 ?_
  refine lv_if_lt (tgt := 17) hx hb dX8_in_3 (by decide) (fun c1 => ?_) (fun c1 => ?_)
  · have h := h.1 c1
    refine lv_iconst (v := (nI 0)) hx hb dX8_in_17 (by decide) ?_
    exact rt_z X hp ⟨Or.inl rfl, h⟩ dX8_in_18
  · have h := h.2 c1
    refine lv_lload_n hx hb dX8_in_6 rfl (lv_at hl 0 rfl) ?_
    refine lv_lload hx hb dX8_in_7 (lv_at hl 2 rfl) ?_
    refine W.lcmp hx hb dX8_in_9 ?_
    refine lv_if_gt (tgt := 17) hx hb dX8_in_10 (by decide) (fun c2 => ?_) (fun c2 => ?_)
    · have h := h.1 c2
      refine lv_iconst (v := (nI 0)) hx hb dX8_in_17 (by decide) ?_
      exact rt_z X hp ⟨Or.inl rfl, h⟩ dX8_in_18
    · have h := h.2 c2
      refine lv_iconst (v := (nI 1)) hx hb dX8_in_13 (by decide) ?_
      refine lv_goto (tgt := 18) hx hb dX8_in_14 (by decide) ?_
      exact rt_z X hp ⟨Or.inr rfl, h⟩ dX8_in_18
set_option maxRecDepth 100000 in
theorem C_X8_in {E : EE} {l : Launch} {x0 : Int64} {x2 : Int64} {x4 : Int64} {I : II} {Q : Int32 → II → Prop} (h : wp_X8_in x0 x2 x4 I Q) : Met l yX8_in (Cond.code yX8_in cX8_in 6 (some .boolean) :: lwT) rmX8_in (va_Pc [.long x0, .long x2, .long x4] (PU E I)) (va_Qi Q (BU E) E.2.2.2.1) 0 0 E.2.2.2.1 :=
  ofWalk [.long x0, .long x2, .long x4] (by decide) tw_c_X8_in (Nat.le_of_ble_eq_true rfl) (fun p e s m below meth c ls X hp hl => w_X8_in_0 X _ _ _ _ _ _ _ h hp hl)
abbrev rmX8_has : Room := { frames := 0, cells := 0, slots := 0, locals := 0 }
theorem sf_X8_has : SF yX8_has cX8_has 2 (some .boolean) 2 := ⟨tw_in_X8, tw_st_X8_has, tw_c_X8_has, by decide, by decide, by decide +kernel⟩
def wp_X8_has (x0 : Int32) (x1 : Int32) (I : II) (Q : Int32 → II → Prop) : Prop := ((¬ ((x0 >>> (x1 &&& 31)) &&& (nI 1)) = (nI 1) → (Q (nI 0) I)) ∧ (((x0 >>> (x1 &&& 31)) &&& (nI 1)) = (nI 1) → (Q (nI 1) I)))
set_option maxHeartbeats 4000000 in
set_option maxRecDepth 100000 in
theorem w_X8_has_0 {E : EE} {p : Program} {l : Launch} {e : Env} {s : State} {m : MethodId} {args : Array Value} {below : List Frame} {meth : Method} {c : Code} {Q : Int32 → II → Prop} (X : CX E p s m args meth c cX8_has 2 (some .boolean) RX8) : ∀ (x0 : Int32) (x1 : Int32) (I : II) (H : Heap) (locs : List Loc) (ls : Array Slot), wp_X8_has x0 x1 I Q → PP E s H locs I → lv_has ls 2 [(0, .int x0), (1, .int x1)] → W p l e rmX8_has s m args below meth c H locs 0 0 (MQ below (va_Qi Q (BU E) E.2.2.2.1) args s 0 0 E.2.2.2.1) (F0 m 0 ls []) := by
  obtain ⟨⟨hx, hb, hml, hown, hts⟩, hr, hlk, hK, hST, hN⟩ := id X
  intro x0 x1 I H locs ls h hp hl
  unfold wp_X8_has at h
  refine lv_iload_n hx hb dX8_has_0 rfl (lv_at hl 0 rfl) ?_
  refine lv_iload_n hx hb dX8_has_1 rfl (lv_at hl 1 rfl) ?_
  refine lv_ishr hx hb dX8_has_2 ?_
  refine lv_iconst (v := (nI 1)) hx hb dX8_has_3 (by decide) ?_
  refine lv_iand hx hb dX8_has_4 ?_
  refine lv_iconst (v := (nI 1)) hx hb dX8_has_5 (by decide) ?_
  refine lv_icmp_ne (tgt := 13) hx hb dX8_has_6 (by decide) (fun c1 => ?_) (fun c1 => ?_)
  · have h := h.1 c1
    refine lv_iconst (v := (nI 0)) hx hb dX8_has_13 (by decide) ?_
    exact rt_z X hp ⟨Or.inl rfl, h⟩ dX8_has_14
  · have h := h.2 c1
    refine lv_iconst (v := (nI 1)) hx hb dX8_has_9 (by decide) ?_
    refine lv_goto (tgt := 14) hx hb dX8_has_10 (by decide) ?_
    exact rt_z X hp ⟨Or.inr rfl, h⟩ dX8_has_14
set_option maxRecDepth 100000 in
theorem C_X8_has {E : EE} {l : Launch} {x0 : Int32} {x1 : Int32} {I : II} {Q : Int32 → II → Prop} (h : wp_X8_has x0 x1 I Q) : Met l yX8_has (Cond.code yX8_has cX8_has 2 (some .boolean) :: lwT) rmX8_has (va_Pc [.int x0, .int x1] (PU E I)) (va_Qi Q (BU E) E.2.2.2.1) 0 0 E.2.2.2.1 :=
  ofWalk [.int x0, .int x1] (by decide) tw_c_X8_has (Nat.le_of_ble_eq_true rfl) (fun p e s m below meth c ls X hp hl => w_X8_has_0 X _ _ _ _ _ _ h hp hl)
abbrev rmX8_bits : Room := { frames := 0, cells := 0, slots := 0, locals := 0 }
theorem sf_X8_bits : SF yX8_bits cX8_bits 3 (some .int) 1 := ⟨tw_in_X8, tw_st_X8_bits, tw_c_X8_bits, by decide, by decide, by decide +kernel⟩
def wp_X8_bits_4 (Q : Int32 → II → Prop) (k24 : Int32 → II → Prop) : Nat → Int32 → Int32 → Int32 → II → Prop
  | 0, _, _, _, _ => False
  | n + 1, x0, x1, x2, I => (((nI 7) ≤ x2 → (k24 x1 I)) ∧ (¬ (nI 7) ≤ x2 → (wp_X8_bits_4 Q k24 n x0 (x1 + ((x0 >>> (x2 &&& 31)) &&& (nI 1))) (x2 + (nI 1)) I)))
set_option maxHeartbeats 4000000 in
set_option maxRecDepth 100000 in
theorem w_X8_bits_4 {E : EE} {p : Program} {l : Launch} {e : Env} {s : State} {m : MethodId} {args : Array Value} {below : List Frame} {meth : Method} {c : Code} {Q : Int32 → II → Prop} {k24 : Int32 → II → Prop} (X : CX E p s m args meth c cX8_bits 3 (some .int) RX8) (K24 : ∀ (x1 : Int32) (I : II) (H : Heap) (locs : List Loc) (ls : Array Slot), k24 x1 I → PP E s H locs I → lv_has ls 3 [(1, .int x1)] → W p l e rmX8_bits s m args below meth c H locs 0 0 (MQ below (va_Qi Q (BU E) E.2.2.2.1) args s 0 0 E.2.2.2.1) (F0 m 24 ls [])) : ∀ (n : Nat) (x0 : Int32) (x1 : Int32) (x2 : Int32) (I : II) (H : Heap) (locs : List Loc) (ls : Array Slot), wp_X8_bits_4 Q k24 n x0 x1 x2 I → PP E s H locs I → lv_has ls 3 [(0, .int x0), (1, .int x1), (2, .int x2)] → W p l e rmX8_bits s m args below meth c H locs 0 0 (MQ below (va_Qi Q (BU E) E.2.2.2.1) args s 0 0 E.2.2.2.1) (F0 m 4 ls []) := by
  obtain ⟨⟨hx, hb, hml, hown, hts⟩, hr, hlk, hK, hST, hN⟩ := id X
  intro n
  induction n with
  | zero =>
    intro x0 x1 x2 I H locs ls h hp hl
    exact False.elim h
  | succ n ih =>
    intro x0 x1 x2 I H locs ls h hp hl
    rw [wp_X8_bits_4.eq_2] at h
    refine lv_iload_n hx hb dX8_bits_4 rfl (lv_at hl 2 rfl) ?_
    refine lv_bipush (v := (nI 7)) hx hb dX8_bits_5 (by decide) ?_
    refine lv_icmp_ge (tgt := 24) hx hb dX8_bits_7 (by decide) (fun c1 => ?_) (fun c1 => ?_)
    · have h := h.1 c1
      exact K24 _ _ _ _ _ h hp (lv_sub hl [1] rfl)
    · have h := h.2 c1
      refine lv_iload_n hx hb dX8_bits_10 rfl (lv_at hl 1 rfl) ?_
      refine lv_iload_n hx hb dX8_bits_11 rfl (lv_at hl 0 rfl) ?_
      refine lv_iload_n hx hb dX8_bits_12 rfl (lv_at hl 2 rfl) ?_
      refine lv_ishr hx hb dX8_bits_13 ?_
      refine lv_iconst (v := (nI 1)) hx hb dX8_bits_14 (by decide) ?_
      refine lv_iand hx hb dX8_bits_15 ?_
      refine lv_iadd hx hb dX8_bits_16 ?_
      refine lv_istore_n (lv' := [(1, .int (x1 + ((x0 >>> (x2 &&& 31)) &&& (nI 1)))), (0, .int x0), (2, .int x2)]) hx hb dX8_bits_17 rfl hl (by decide) rfl (fun ls hl => ?_)
      refine lv_iinc (v := (x2 + (nI 1))) (lv' := [(2, .int (x2 + (nI 1))), (1, .int (x1 + ((x0 >>> (x2 &&& 31)) &&& (nI 1)))), (0, .int x0)]) hx hb dX8_bits_18 hl (k := 2) rfl rfl (by decide) rfl (fun ls hl => ?_)
      refine lv_goto (tgt := 4) hx hb dX8_bits_21 (by decide) ?_
      exact ih _ _ _ _ _ _ _ h hp (lv_sub hl [2, 1, 0] rfl)
def wp_X8_bits (x0 : Int32) (I : II) (Q : Int32 → II → Prop) : Prop := (∃ n51, wp_X8_bits_4 Q (fun x1 I => (Q x1 I)) n51 x0 (nI 0) (nI 0) I)
set_option maxHeartbeats 4000000 in
set_option maxRecDepth 100000 in
theorem w_X8_bits_0 {E : EE} {p : Program} {l : Launch} {e : Env} {s : State} {m : MethodId} {args : Array Value} {below : List Frame} {meth : Method} {c : Code} {Q : Int32 → II → Prop} (X : CX E p s m args meth c cX8_bits 3 (some .int) RX8) : ∀ (x0 : Int32) (I : II) (H : Heap) (locs : List Loc) (ls : Array Slot), wp_X8_bits x0 I Q → PP E s H locs I → lv_has ls 3 [(0, .int x0)] → W p l e rmX8_bits s m args below meth c H locs 0 0 (MQ below (va_Qi Q (BU E) E.2.2.2.1) args s 0 0 E.2.2.2.1) (F0 m 0 ls []) := by
  obtain ⟨⟨hx, hb, hml, hown, hts⟩, hr, hlk, hK, hST, hN⟩ := id X
  intro x0 I H locs ls h hp hl
  unfold wp_X8_bits at h
  refine lv_iconst (v := (nI 0)) hx hb dX8_bits_0 (by decide) ?_
  refine lv_istore_n (lv' := [(1, .int (nI 0)), (0, .int x0)]) hx hb dX8_bits_1 rfl hl (by decide) rfl (fun ls hl => ?_)
  refine lv_iconst (v := (nI 0)) hx hb dX8_bits_2 (by decide) ?_
  refine lv_istore_n (lv' := [(2, .int (nI 0)), (1, .int (nI 0)), (0, .int x0)]) hx hb dX8_bits_3 rfl hl (by decide) rfl (fun ls hl => ?_)
  obtain ⟨n51, h⟩ := h
  refine w_X8_bits_4 X ?_ n51 _ _ _ _ _ _ _ h hp (lv_sub hl [2, 1, 0] rfl)
  · intro x1 I H locs ls h hp hl
    refine lv_iload_n hx hb dX8_bits_24 rfl (lv_at hl 0 rfl) ?_
    exact rt_i X hp h dX8_bits_25
set_option maxRecDepth 100000 in
theorem C_X8_bits {E : EE} {l : Launch} {x0 : Int32} {I : II} {Q : Int32 → II → Prop} (h : wp_X8_bits x0 I Q) : Met l yX8_bits (Cond.code yX8_bits cX8_bits 3 (some .int) :: lwT) rmX8_bits (va_Pc [.int x0] (PU E I)) (va_Qi Q (BU E) E.2.2.2.1) 0 0 E.2.2.2.1 :=
  ofWalk [.int x0] (by decide) tw_c_X8_bits (Nat.le_of_ble_eq_true rfl) (fun p e s m below meth c ls X hp hl => w_X8_bits_0 X _ _ _ _ _ h hp hl)
abbrev rmX8_find : Room := { frames := 0, cells := 0, slots := 0, locals := 0 }
theorem vf_X8_find : VF yX8_find RX8 cX8_find 2 (some .int) 1 := ⟨tw_in_X8, tw_im_X8_find, tw_se_X8_find, tw_c_X8_find, by decide, by decide, by decide +kernel⟩
def wp_X8_find (x1 : Int32) (I : II) (Q : Int32 → II → Prop) : Prop := (∀ I1 : II, I1 = su I 315 10 x1 → (Q ((-nI 1000010) - x1) I1))
set_option maxHeartbeats 4000000 in
set_option maxRecDepth 100000 in
theorem w_X8_find_0 {E : EE} {p : Program} {l : Launch} {e : Env} {s : State} {m : MethodId} {args : Array Value} {below : List Frame} {meth : Method} {c : Code} {Q : Int32 → II → Prop} (X : CX E p s m args meth c cX8_find 2 (some .int) RX8) : ∀ (x1 : Int32) (I : II) (H : Heap) (locs : List Loc) (ls : Array Slot), wp_X8_find x1 I Q → PP E s H locs I → lv_has ls 2 [(0, .ref (E.2.1 315)), (1, .int x1)] → W p l e rmX8_find s m args below meth c H locs 0 0 (MQ below (va_Qi Q (BU E) E.2.2.2.1) args s 0 0 E.2.2.2.1) (F0 m 0 ls []) := by
  obtain ⟨⟨hx, hb, hml, hown, hts⟩, hr, hlk, hK, hST, hN⟩ := id X
  intro x1 I H locs ls h hp hl
  unfold wp_X8_find at h
  refine lv_aload_n hx hb dX8_find_0 rfl (lv_at hl 0 rfl) ?_
  refine lv_iload_n hx hb dX8_find_1 rfl (lv_at hl 1 rfl) ?_
  refine g_X8_38 X hp dX8_find_2 (fun H locs hp => ?_)
  obtain ⟨I1, e2⟩ : ∃ y, y = su I 315 10 x1 := ⟨_, rfl⟩
  have hp : PP E s H locs I1 := by rw [e2]; exact hp
  have h := h I1 e2
  refine lv_ldc (v := (-nI 1000010)) hx hb hown (hts _ tw_k_X8_42) dX8_find_5 ?_
  refine lv_iload_n hx hb dX8_find_7 rfl (lv_at hl 1 rfl) ?_
  refine lv_isub hx hb dX8_find_8 ?_
  exact rt_i X hp h dX8_find_9
set_option maxRecDepth 100000 in
theorem C_X8_find {E : EE} {l : Launch} {x1 : Int32} {I : II} {Q : Int32 → II → Prop} (h : wp_X8_find x1 I Q) : Met l yX8_find (Cond.code yX8_find cX8_find 2 (some .int) :: lwT) rmX8_find (va_Pc [.ref (E.2.1 315), .int x1] (PU E I)) (va_Qi Q (BU E) E.2.2.2.1) 0 0 E.2.2.2.1 :=
  ofWalk [.ref (E.2.1 315), .int x1] (by decide) tw_c_X8_find (Nat.le_of_ble_eq_true rfl) (fun p e s m below meth c ls X hp hl => w_X8_find_0 X _ _ _ _ _ h hp hl)
abbrev rmX8_well : Room := { frames := 0, cells := 0, slots := 0, locals := 0 }
theorem vf_X8_well : VF yX8_well RX8 cX8_well 2 (some .int) 1 := ⟨tw_in_X8, tw_im_X8_well, tw_se_X8_well, tw_c_X8_well, by decide, by decide, by decide +kernel⟩
def wp_X8_well (x1 : Int32) (I : II) (Q : Int32 → II → Prop) : Prop := (∀ I1 : II, I1 = su I 315 10 (nI 0) → (Q x1 I1))
set_option maxHeartbeats 4000000 in
set_option maxRecDepth 100000 in
theorem w_X8_well_0 {E : EE} {p : Program} {l : Launch} {e : Env} {s : State} {m : MethodId} {args : Array Value} {below : List Frame} {meth : Method} {c : Code} {Q : Int32 → II → Prop} (X : CX E p s m args meth c cX8_well 2 (some .int) RX8) : ∀ (x1 : Int32) (I : II) (H : Heap) (locs : List Loc) (ls : Array Slot), wp_X8_well x1 I Q → PP E s H locs I → lv_has ls 2 [(0, .ref (E.2.1 315)), (1, .int x1)] → W p l e rmX8_well s m args below meth c H locs 0 0 (MQ below (va_Qi Q (BU E) E.2.2.2.1) args s 0 0 E.2.2.2.1) (F0 m 0 ls []) := by
  obtain ⟨⟨hx, hb, hml, hown, hts⟩, hr, hlk, hK, hST, hN⟩ := id X
  intro x1 I H locs ls h hp hl
  unfold wp_X8_well at h
  refine lv_aload_n hx hb dX8_well_0 rfl (lv_at hl 0 rfl) ?_
  refine lv_iconst (v := (nI 0)) hx hb dX8_well_1 (by decide) ?_
  refine g_X8_38 X hp dX8_well_2 (fun H locs hp => ?_)
  obtain ⟨I1, e2⟩ : ∃ y, y = su I 315 10 (nI 0) := ⟨_, rfl⟩
  have hp : PP E s H locs I1 := by rw [e2]; exact hp
  have h := h I1 e2
  refine lv_iload_n hx hb dX8_well_5 rfl (lv_at hl 1 rfl) ?_
  exact rt_i X hp h dX8_well_6
set_option maxRecDepth 100000 in
theorem C_X8_well {E : EE} {l : Launch} {x1 : Int32} {I : II} {Q : Int32 → II → Prop} (h : wp_X8_well x1 I Q) : Met l yX8_well (Cond.code yX8_well cX8_well 2 (some .int) :: lwT) rmX8_well (va_Pc [.ref (E.2.1 315), .int x1] (PU E I)) (va_Qi Q (BU E) E.2.2.2.1) 0 0 E.2.2.2.1 :=
  ofWalk [.ref (E.2.1 315), .int x1] (by decide) tw_c_X8_well (Nat.le_of_ble_eq_true rfl) (fun p e s m below meth c ls X hp hl => w_X8_well_0 X _ _ _ _ _ h hp hl)
abbrev rmX8_isRow : Room := { frames := 1, cells := 0, slots := 0, locals := 25 }
theorem sf_X8_isRow : SF yX8_isRow cX8_isRow 1 (some .boolean) 1 := ⟨tw_in_X8, tw_st_X8_isRow, tw_c_X8_isRow, by decide, by decide, by decide +kernel⟩
def wp_X8_isRow (x0 : Int32) (I : II) (Q : Int32 → II → Prop) : Prop := (wp_X8_in x0.toInt64 (lN 0) (lN 7) I (fun r2 I1 => (isb r2 ∧ Q r2 I1)))
set_option maxHeartbeats 4000000 in
set_option maxRecDepth 100000 in
theorem w_X8_isRow_0 {E : EE} {p : Program} {l : Launch} {e : Env} {s : State} {m : MethodId} {args : Array Value} {below : List Frame} {meth : Method} {c : Code} {Q : Int32 → II → Prop} (X : CX E p s m args meth c cX8_isRow 1 (some .boolean) RX8) : ∀ (x0 : Int32) (I : II) (H : Heap) (locs : List Loc) (ls : Array Slot), wp_X8_isRow x0 I Q → PP E s H locs I → lv_has ls 1 [(0, .int x0)] → W p l e rmX8_isRow s m args below meth c H locs 0 0 (MQ below (va_Qi Q (BU E) E.2.2.2.1) args s 0 0 E.2.2.2.1) (F0 m 0 ls []) := by
  obtain ⟨⟨hx, hb, hml, hown, hts⟩, hr, hlk, hK, hST, hN⟩ := id X
  intro x0 I H locs ls h hp hl
  unfold wp_X8_isRow at h
  refine lv_iload_n hx hb dX8_isRow_0 rfl (lv_at hl 0 rfl) ?_
  refine lv_i2l (v := x0.toInt64) hx hb dX8_isRow_1 rfl ?_
  refine lv_lconst (v := (lN 0)) hx hb dX8_isRow_2 (by decide) ?_
  refine lv_ldc2 (v := (lN 7)) hx hb hown (hts _ tw_kl_X8_43) dX8_isRow_3 ?_
  refine ki (kS (As := [.long x0.toInt64, .long (lN 0), .long (lN 7)]) (rest := []) X hp (C_X8_in  h) tw_ml_X8_45 sf_X8_in ⟨rfl, rfl, Nat.le_of_ble_eq_true rfl, Nat.le_of_ble_eq_true rfl⟩ rfl hl.1 rfl (Nat.le_of_ble_eq_true rfl) dX8_isRow_6) hp (fun r2 I1 H locs h hp => ?_)
  exact rt_z X hp h dX8_isRow_9
set_option maxRecDepth 100000 in
theorem C_X8_isRow {E : EE} {l : Launch} {x0 : Int32} {I : II} {Q : Int32 → II → Prop} (h : wp_X8_isRow x0 I Q) : Met l yX8_isRow (Cond.code yX8_isRow cX8_isRow 1 (some .boolean) :: lwT) rmX8_isRow (va_Pc [.int x0] (PU E I)) (va_Qi Q (BU E) E.2.2.2.1) 0 0 E.2.2.2.1 :=
  ofWalk [.int x0] (by decide) tw_c_X8_isRow (Nat.le_of_ble_eq_true rfl) (fun p e s m below meth c ls X hp hl => w_X8_isRow_0 X _ _ _ _ _ h hp hl)
abbrev rmX8_row : Room := { frames := 2, cells := 0, slots := 0, locals := 45 }
theorem vf_X8_row : VF yX8_row RX8 cX8_row 5 (some .int) 3 := ⟨tw_in_X8, tw_im_X8_row, tw_se_X8_row, tw_c_X8_row, by decide, by decide, by decide +kernel⟩
def wp_X8_row_55 (Q : Int32 → II → Prop) (k81 : Int32 → II → Prop) : Nat → Int32 → Int32 → Int32 → II → Prop
  | 0, _, _, _, _ => False
  | n + 1, x1, x3, x4, I => (((nI 40) ≤ x4 → (k81 x3 I)) ∧ (¬ (nI 40) ≤ x4 → (vp_in (((nI 40) * x1) + x4) 320 ∧ ∀ I3 : II, I3 = su I 320 (((nI 40) * x1) + x4).toNatClampNeg (nI 0) → (wp_X8_row_55 Q k81 n x1 x3 (x4 + (nI 1)) I3))))
set_option maxHeartbeats 4000000 in
set_option maxRecDepth 100000 in
theorem w_X8_row_55 {E : EE} {p : Program} {l : Launch} {e : Env} {s : State} {m : MethodId} {args : Array Value} {below : List Frame} {meth : Method} {c : Code} {Q : Int32 → II → Prop} {k81 : Int32 → II → Prop} (X : CX E p s m args meth c cX8_row 5 (some .int) RX8) (K81 : ∀ (x3 : Int32) (I : II) (H : Heap) (locs : List Loc) (ls : Array Slot), k81 x3 I → PP E s H locs I → lv_has ls 5 [(0, .ref (E.2.1 315)), (3, .int x3)] → W p l e rmX8_row s m args below meth c H locs 0 0 (MQ below (va_Qi Q (BU E) E.2.2.2.1) args s 0 0 E.2.2.2.1) (F0 m 81 ls [])) : ∀ (n : Nat) (x1 : Int32) (x3 : Int32) (x4 : Int32) (I : II) (H : Heap) (locs : List Loc) (ls : Array Slot), wp_X8_row_55 Q k81 n x1 x3 x4 I → PP E s H locs I → lv_has ls 5 [(0, .ref (E.2.1 315)), (1, .int x1), (3, .int x3), (4, .int x4)] → W p l e rmX8_row s m args below meth c H locs 0 0 (MQ below (va_Qi Q (BU E) E.2.2.2.1) args s 0 0 E.2.2.2.1) (F0 m 55 ls []) := by
  obtain ⟨⟨hx, hb, hml, hown, hts⟩, hr, hlk, hK, hST, hN⟩ := id X
  intro n
  induction n with
  | zero =>
    intro x1 x3 x4 I H locs ls h hp hl
    exact False.elim h
  | succ n ih =>
    intro x1 x3 x4 I H locs ls h hp hl
    rw [wp_X8_row_55.eq_2] at h
    refine lv_iload hx hb dX8_row_55 (lv_at hl 3 rfl) ?_
    refine lv_bipush (v := (nI 40)) hx hb dX8_row_57 (by decide) ?_
    refine lv_icmp_ge (tgt := 81) hx hb dX8_row_59 (by decide) (fun c1 => ?_) (fun c1 => ?_)
    · have h := h.1 c1
      exact K81 _ _ _ _ _ h hp (lv_sub hl [0, 2] rfl)
    · have h := h.2 c1
      refine lv_aload_n hx hb dX8_row_62 rfl (lv_at hl 0 rfl) ?_
      refine f_X8_23 X hp dX8_row_63 ?_
      refine lv_bipush (v := (nI 40)) hx hb dX8_row_66 (by decide) ?_
      refine lv_iload_n hx hb dX8_row_68 rfl (lv_at hl 1 rfl) ?_
      refine lv_imul hx hb dX8_row_69 ?_
      refine lv_iload hx hb dX8_row_70 (lv_at hl 3 rfl) ?_
      refine lv_iadd hx hb dX8_row_72 ?_
      refine lv_iconst (v := (nI 0)) hx hb dX8_row_73 (by decide) ?_
      have hv2 := h.1
      have h := h.2
      refine as_i X hp ar_s320 hv2 dX8_row_74 (fun H locs hp => ?_)
      obtain ⟨I3, e4⟩ : ∃ y, y = su I 320 (((nI 40) * x1) + x4).toNatClampNeg (nI 0) := ⟨_, rfl⟩
      have hp : PP E s H locs I3 := by rw [e4]; exact hp
      have h := h I3 e4
      refine lv_iinc (v := (x4 + (nI 1))) (lv' := [(4, .int (x4 + (nI 1))), (0, .ref (E.2.1 315)), (1, .int x1), (3, .int x3)]) hx hb dX8_row_75 hl (k := 3) rfl rfl (by decide) rfl (fun ls hl => ?_)
      refine lv_goto (tgt := 55) hx hb dX8_row_78 (by decide) ?_
      exact ih _ _ _ _ _ _ _ h hp (lv_sub hl [1, 2, 3, 0] rfl)
def wp_X8_row (x1 : Int32) (x2 : Int32) (x3 : Int32) (I : II) (Q : Int32 → II → Prop) : Prop := (wp_X8_isRow x1 I (fun r2 I1 => ((r2 = 0 → (Q (-nI 1000001) I1)) ∧ (¬ r2 = 0 → (wp_X8_in x2.toInt64 (lN 0) (lN 2) I1 (fun r5 I4 => ((r5 = 0 → (Q (-nI 1000001) I4)) ∧ (¬ r5 = 0 → ((x3 ≤ (nI 40) → ((0 ≤ x3 → (vp_in x1 8 ∧ ∀ I10 : II, I10 = su I4 318 x1.toNatClampNeg x2 → (vp_in x1 8 ∧ ∀ I13 : II, I13 = su I10 319 x1.toNatClampNeg x3 → (∃ n67, wp_X8_row_55 Q (fun x3 I => (wp_X8_well x3 I (fun r66 I65 => (Q r66 I65)))) n67 x1 x3 (nI 0) I13)))) ∧ (¬ 0 ≤ x3 → (wp_X8_find (nI 4) I4 (fun r69 I68 => (Q r69 I68)))))) ∧ (¬ x3 ≤ (nI 40) → (Q (-nI 1000001) I4)))))))))))
set_option maxHeartbeats 4000000 in
set_option maxRecDepth 100000 in
theorem w_X8_row_0 {E : EE} {p : Program} {l : Launch} {e : Env} {s : State} {m : MethodId} {args : Array Value} {below : List Frame} {meth : Method} {c : Code} {Q : Int32 → II → Prop} (X : CX E p s m args meth c cX8_row 5 (some .int) RX8) : ∀ (x1 : Int32) (x2 : Int32) (x3 : Int32) (I : II) (H : Heap) (locs : List Loc) (ls : Array Slot), wp_X8_row x1 x2 x3 I Q → PP E s H locs I → lv_has ls 5 [(0, .ref (E.2.1 315)), (1, .int x1), (2, .int x2), (3, .int x3)] → W p l e rmX8_row s m args below meth c H locs 0 0 (MQ below (va_Qi Q (BU E) E.2.2.2.1) args s 0 0 E.2.2.2.1) (F0 m 0 ls []) := by
  obtain ⟨⟨hx, hb, hml, hown, hts⟩, hr, hlk, hK, hST, hN⟩ := id X
  intro x1 x2 x3 I H locs ls h hp hl
  unfold wp_X8_row at h
  refine lv_iload_n hx hb dX8_row_0 rfl (lv_at hl 1 rfl) ?_
  refine ki (kS (As := [.int x1]) (rest := []) X hp (C_X8_isRow  h) tw_ml_X8_49 sf_X8_isRow ⟨rfl, rfl, Nat.le_of_ble_eq_true rfl, Nat.le_of_ble_eq_true rfl⟩ rfl hl.1 rfl (Nat.le_of_ble_eq_true rfl) dX8_row_1) hp (fun r2 I1 H locs h hp => ?_)
  refine lv_if_eq (tgt := 25) hx hb dX8_row_4 (by decide) (fun c3 => ?_) (fun c3 => ?_)
  · have h := h.1 c3
    refine lv_ldc (v := (-nI 1000001)) hx hb hown (hts _ tw_k_X8_55) dX8_row_25 ?_
    exact rt_i X hp h dX8_row_27
  · have h := h.2 c3
    refine lv_iload_n hx hb dX8_row_7 rfl (lv_at hl 2 rfl) ?_
    refine lv_i2l (v := x2.toInt64) hx hb dX8_row_8 rfl ?_
    refine lv_lconst (v := (lN 0)) hx hb dX8_row_9 (by decide) ?_
    refine lv_ldc2 (v := (lN 2)) hx hb hown (hts _ tw_kl_X8_53) dX8_row_10 ?_
    refine ki (kS (As := [.long x2.toInt64, .long (lN 0), .long (lN 2)]) (rest := []) X hp (C_X8_in  h) tw_ml_X8_45 sf_X8_in ⟨rfl, rfl, Nat.le_of_ble_eq_true rfl, Nat.le_of_ble_eq_true rfl⟩ rfl hl.1 rfl (Nat.le_of_ble_eq_true rfl) dX8_row_13) hp (fun r5 I4 H locs h hp => ?_)
    refine lv_if_eq (tgt := 25) hx hb dX8_row_16 (by decide) (fun c6 => ?_) (fun c6 => ?_)
    · have h := h.1 c6
      refine lv_ldc (v := (-nI 1000001)) hx hb hown (hts _ tw_k_X8_55) dX8_row_25 ?_
      exact rt_i X hp h dX8_row_27
    · have h := h.2 c6
      refine lv_iload_n hx hb dX8_row_19 rfl (lv_at hl 3 rfl) ?_
      refine lv_bipush (v := (nI 40)) hx hb dX8_row_20 (by decide) ?_
      refine lv_icmp_le (tgt := 28) hx hb dX8_row_22 (by decide) (fun c7 => ?_) (fun c7 => ?_)
      · have h := h.1 c7
        refine lv_iload_n hx hb dX8_row_28 rfl (lv_at hl 3 rfl) ?_
        refine lv_if_ge (tgt := 38) hx hb dX8_row_29 (by decide) (fun c8 => ?_) (fun c8 => ?_)
        · have h := h.1 c8
          refine lv_aload_n hx hb dX8_row_38 rfl (lv_at hl 0 rfl) ?_
          refine f_X8_17 X hp dX8_row_39 ?_
          refine lv_iload_n hx hb dX8_row_42 rfl (lv_at hl 1 rfl) ?_
          refine lv_iload_n hx hb dX8_row_43 rfl (lv_at hl 2 rfl) ?_
          have hv9 := h.1
          have h := h.2
          refine as_i X hp ar_s318 hv9 dX8_row_44 (fun H locs hp => ?_)
          obtain ⟨I10, e11⟩ : ∃ y, y = su I4 318 x1.toNatClampNeg x2 := ⟨_, rfl⟩
          have hp : PP E s H locs I10 := by rw [e11]; exact hp
          have h := h I10 e11
          refine lv_aload_n hx hb dX8_row_45 rfl (lv_at hl 0 rfl) ?_
          refine f_X8_20 X hp dX8_row_46 ?_
          refine lv_iload_n hx hb dX8_row_49 rfl (lv_at hl 1 rfl) ?_
          refine lv_iload_n hx hb dX8_row_50 rfl (lv_at hl 3 rfl) ?_
          have hv12 := h.1
          have h := h.2
          refine as_i X hp ar_s319 hv12 dX8_row_51 (fun H locs hp => ?_)
          obtain ⟨I13, e14⟩ : ∃ y, y = su I10 319 x1.toNatClampNeg x3 := ⟨_, rfl⟩
          have hp : PP E s H locs I13 := by rw [e14]; exact hp
          have h := h I13 e14
          refine lv_iconst (v := (nI 0)) hx hb dX8_row_52 (by decide) ?_
          refine lv_istore (lv' := [(4, .int (nI 0)), (0, .ref (E.2.1 315)), (1, .int x1), (2, .int x2), (3, .int x3)]) hx hb dX8_row_53 hl (by decide) rfl (fun ls hl => ?_)
          obtain ⟨n67, h⟩ := h
          refine w_X8_row_55 X ?_ n67 _ _ _ _ _ _ _ h hp (lv_sub hl [1, 2, 4, 0] rfl)
          · intro x3 I H locs ls h hp hl
            refine lv_aload_n hx hb dX8_row_81 rfl (lv_at hl 0 rfl) ?_
            refine lv_iload_n hx hb dX8_row_82 rfl (lv_at hl 1 rfl) ?_
            refine ki (kV (As := [.int x3]) (rest := []) X hp (C_X8_well  h) tw_ml_X8_60 vf_X8_well ⟨rfl, rfl, Nat.le_of_ble_eq_true rfl, Nat.le_of_ble_eq_true rfl⟩ (pr_rcv X hp (k := 315) (by decide) (ob_315 _) (q := (RX8, TX8, 18)) rfl) rfl hl.1 rfl (Nat.le_of_ble_eq_true rfl) dX8_row_83) hp (fun r66 I65 H locs h hp => ?_)
            exact rt_i X hp h dX8_row_86
        · have h := h.2 c8
          refine lv_aload_n hx hb dX8_row_32 rfl (lv_at hl 0 rfl) ?_
          refine lv_iconst (v := (nI 4)) hx hb dX8_row_33 (by decide) ?_
          refine ki (kV (As := [.int (nI 4)]) (rest := []) X hp (C_X8_find  h) tw_ml_X8_56 vf_X8_find ⟨rfl, rfl, Nat.le_of_ble_eq_true rfl, Nat.le_of_ble_eq_true rfl⟩ (pr_rcv X hp (k := 315) (by decide) (ob_315 _) (q := (RX8, TX8, 18)) rfl) rfl hl.1 rfl (Nat.le_of_ble_eq_true rfl) dX8_row_34) hp (fun r69 I68 H locs h hp => ?_)
          exact rt_i X hp h dX8_row_37
      · have h := h.2 c7
        refine lv_ldc (v := (-nI 1000001)) hx hb hown (hts _ tw_k_X8_55) dX8_row_25 ?_
        exact rt_i X hp h dX8_row_27
set_option maxRecDepth 100000 in
theorem C_X8_row {E : EE} {l : Launch} {x1 : Int32} {x2 : Int32} {x3 : Int32} {I : II} {Q : Int32 → II → Prop} (h : wp_X8_row x1 x2 x3 I Q) : Met l yX8_row (Cond.code yX8_row cX8_row 5 (some .int) :: lwT) rmX8_row (va_Pc [.ref (E.2.1 315), .int x1, .int x2, .int x3] (PU E I)) (va_Qi Q (BU E) E.2.2.2.1) 0 0 E.2.2.2.1 :=
  ofWalk [.ref (E.2.1 315), .int x1, .int x2, .int x3] (by decide) tw_c_X8_row (Nat.le_of_ble_eq_true rfl) (fun p e s m below meth c ls X hp hl => w_X8_row_0 X _ _ _ _ _ _ _ h hp hl)
abbrev rmX8_narrow : Room := { frames := 0, cells := 0, slots := 0, locals := 0 }
theorem sf_X8_narrow : SF yX8_narrow cX8_narrow 2 (some .int) 2 := ⟨tw_in_X8, tw_st_X8_narrow, tw_c_X8_narrow, by decide, by decide, by decide +kernel⟩
def wp_X8_narrow (x0 : Int32) (x1 : Int32) (I : II) (Q : Int32 → II → Prop) : Prop := ((¬ x1 = 0 → ((¬ x1 = (nI 1) → (Q x0 I)) ∧ (x1 = (nI 1) → (Q x0.toInt16.toInt32 I)))) ∧ (x1 = 0 → (Q x0.toInt8.toInt32 I)))
set_option maxHeartbeats 4000000 in
set_option maxRecDepth 100000 in
theorem w_X8_narrow_0 {E : EE} {p : Program} {l : Launch} {e : Env} {s : State} {m : MethodId} {args : Array Value} {below : List Frame} {meth : Method} {c : Code} {Q : Int32 → II → Prop} (X : CX E p s m args meth c cX8_narrow 2 (some .int) RX8) : ∀ (x0 : Int32) (x1 : Int32) (I : II) (H : Heap) (locs : List Loc) (ls : Array Slot), wp_X8_narrow x0 x1 I Q → PP E s H locs I → lv_has ls 2 [(0, .int x0), (1, .int x1)] → W p l e rmX8_narrow s m args below meth c H locs 0 0 (MQ below (va_Qi Q (BU E) E.2.2.2.1) args s 0 0 E.2.2.2.1) (F0 m 0 ls []) := by
  obtain ⟨⟨hx, hb, hml, hown, hts⟩, hr, hlk, hK, hST, hN⟩ := id X
  intro x0 x1 I H locs ls h hp hl
  unfold wp_X8_narrow at h
  refine lv_iload_n hx hb dX8_narrow_0 rfl (lv_at hl 1 rfl) ?_
  refine lv_if_ne (tgt := 9) hx hb dX8_narrow_1 (by decide) (fun c1 => ?_) (fun c1 => ?_)
  · have h := h.1 c1
    refine lv_iload_n hx hb dX8_narrow_9 rfl (lv_at hl 1 rfl) ?_
    refine lv_iconst (v := (nI 1)) hx hb dX8_narrow_10 (by decide) ?_
    refine lv_icmp_ne (tgt := 19) hx hb dX8_narrow_11 (by decide) (fun c2 => ?_) (fun c2 => ?_)
    · have h := h.1 c2
      refine lv_iload_n hx hb dX8_narrow_19 rfl (lv_at hl 0 rfl) ?_
      exact rt_i X hp h dX8_narrow_20
    · have h := h.2 c2
      refine lv_iload_n hx hb dX8_narrow_14 rfl (lv_at hl 0 rfl) ?_
      refine lv_i2s (v := x0.toInt16.toInt32) hx hb dX8_narrow_15 rfl ?_
      refine lv_goto (tgt := 20) hx hb dX8_narrow_16 (by decide) ?_
      exact rt_i X hp h dX8_narrow_20
  · have h := h.2 c1
    refine lv_iload_n hx hb dX8_narrow_4 rfl (lv_at hl 0 rfl) ?_
    refine lv_i2b (v := x0.toInt8.toInt32) hx hb dX8_narrow_5 rfl ?_
    refine lv_goto (tgt := 20) hx hb dX8_narrow_6 (by decide) ?_
    exact rt_i X hp h dX8_narrow_20
set_option maxRecDepth 100000 in
theorem C_X8_narrow {E : EE} {l : Launch} {x0 : Int32} {x1 : Int32} {I : II} {Q : Int32 → II → Prop} (h : wp_X8_narrow x0 x1 I Q) : Met l yX8_narrow (Cond.code yX8_narrow cX8_narrow 2 (some .int) :: lwT) rmX8_narrow (va_Pc [.int x0, .int x1] (PU E I)) (va_Qi Q (BU E) E.2.2.2.1) 0 0 E.2.2.2.1 :=
  ofWalk [.int x0, .int x1] (by decide) tw_c_X8_narrow (Nat.le_of_ble_eq_true rfl) (fun p e s m below meth c ls X hp hl => w_X8_narrow_0 X _ _ _ _ _ _ h hp hl)
abbrev rmX8_set : Room := { frames := 2, cells := 0, slots := 0, locals := 45 }
theorem vf_X8_set : VF yX8_set RX8 cX8_set 4 (some .int) 3 := ⟨tw_in_X8, tw_im_X8_set, tw_se_X8_set, tw_c_X8_set, by decide, by decide, by decide +kernel⟩
def wp_X8_set (x1 : Int32) (x2 : Int32) (x3 : Int32) (I : II) (Q : Int32 → II → Prop) : Prop := (wp_X8_isRow x1 I (fun r2 I1 => ((¬ r2 = 0 → (vp_in x1 8 ∧ ((0 ≤ (I1 319 x1.toNatClampNeg) → (vp_in x1 8 ∧ (wp_X8_in x2.toInt64 (lN 0) ((I1 319 x1.toNatClampNeg) - (nI 1)).toInt64 I1 (fun r8 I7 => ((¬ r8 = 0 → (vp_in x1 8 ∧ (wp_X8_narrow x3 (I7 318 x1.toNatClampNeg) I7 (fun r12 I11 => (vp_in (((nI 40) * x1) + x2) 320 ∧ ∀ I14 : II, I14 = su I11 320 (((nI 40) * x1) + x2).toNatClampNeg r12 → (vp_in (((nI 40) * x1) + x2) 320 ∧ (wp_X8_well (I14 320 (((nI 40) * x1) + x2).toNatClampNeg) I14 (fun r18 I17 => (Q r18 I17))))))))) ∧ (r8 = 0 → (wp_X8_find (nI 2) I7 (fun r20 I19 => (Q r20 I19))))))))) ∧ (¬ 0 ≤ (I1 319 x1.toNatClampNeg) → (wp_X8_find (nI 1) I1 (fun r22 I21 => (Q r22 I21))))))) ∧ (r2 = 0 → (Q (-nI 1000001) I1)))))
set_option maxHeartbeats 4000000 in
set_option maxRecDepth 100000 in
theorem w_X8_set_0 {E : EE} {p : Program} {l : Launch} {e : Env} {s : State} {m : MethodId} {args : Array Value} {below : List Frame} {meth : Method} {c : Code} {Q : Int32 → II → Prop} (X : CX E p s m args meth c cX8_set 4 (some .int) RX8) : ∀ (x1 : Int32) (x2 : Int32) (x3 : Int32) (I : II) (H : Heap) (locs : List Loc) (ls : Array Slot), wp_X8_set x1 x2 x3 I Q → PP E s H locs I → lv_has ls 4 [(0, .ref (E.2.1 315)), (1, .int x1), (2, .int x2), (3, .int x3)] → W p l e rmX8_set s m args below meth c H locs 0 0 (MQ below (va_Qi Q (BU E) E.2.2.2.1) args s 0 0 E.2.2.2.1) (F0 m 0 ls []) := by
  obtain ⟨⟨hx, hb, hml, hown, hts⟩, hr, hlk, hK, hST, hN⟩ := id X
  intro x1 x2 x3 I H locs ls h hp hl
  unfold wp_X8_set at h
  refine lv_iload_n hx hb dX8_set_0 rfl (lv_at hl 1 rfl) ?_
  refine ki (kS (As := [.int x1]) (rest := []) X hp (C_X8_isRow  h) tw_ml_X8_49 sf_X8_isRow ⟨rfl, rfl, Nat.le_of_ble_eq_true rfl, Nat.le_of_ble_eq_true rfl⟩ rfl hl.1 rfl (Nat.le_of_ble_eq_true rfl) dX8_set_1) hp (fun r2 I1 H locs h hp => ?_)
  refine lv_if_ne (tgt := 10) hx hb dX8_set_4 (by decide) (fun c3 => ?_) (fun c3 => ?_)
  · have h := h.1 c3
    refine lv_aload_n hx hb dX8_set_10 rfl (lv_at hl 0 rfl) ?_
    refine f_X8_20 X hp dX8_set_11 ?_
    refine lv_iload_n hx hb dX8_set_14 rfl (lv_at hl 1 rfl) ?_
    have hv4 := h.1
    have h := h.2
    refine al_i X hp ar_s319 hv4 dX8_set_15 ?_
    refine lv_if_ge (tgt := 25) hx hb dX8_set_16 (by decide) (fun c5 => ?_) (fun c5 => ?_)
    · have h := h.1 c5
      refine lv_iload_n hx hb dX8_set_25 rfl (lv_at hl 2 rfl) ?_
      refine lv_i2l (v := x2.toInt64) hx hb dX8_set_26 rfl ?_
      refine lv_lconst (v := (lN 0)) hx hb dX8_set_27 (by decide) ?_
      refine lv_aload_n hx hb dX8_set_28 rfl (lv_at hl 0 rfl) ?_
      refine f_X8_20 X hp dX8_set_29 ?_
      refine lv_iload_n hx hb dX8_set_32 rfl (lv_at hl 1 rfl) ?_
      have hv6 := h.1
      have h := h.2
      refine al_i X hp ar_s319 hv6 dX8_set_33 ?_
      refine lv_iconst (v := (nI 1)) hx hb dX8_set_34 (by decide) ?_
      refine lv_isub hx hb dX8_set_35 ?_
      refine lv_i2l (v := ((I1 319 x1.toNatClampNeg) - (nI 1)).toInt64) hx hb dX8_set_36 rfl ?_
      refine ki (kS (As := [.long x2.toInt64, .long (lN 0), .long ((I1 319 x1.toNatClampNeg) - (nI 1)).toInt64]) (rest := []) X hp (C_X8_in  h) tw_ml_X8_45 sf_X8_in ⟨rfl, rfl, Nat.le_of_ble_eq_true rfl, Nat.le_of_ble_eq_true rfl⟩ rfl hl.1 rfl (Nat.le_of_ble_eq_true rfl) dX8_set_37) hp (fun r8 I7 H locs h hp => ?_)
      refine lv_if_ne (tgt := 49) hx hb dX8_set_40 (by decide) (fun c9 => ?_) (fun c9 => ?_)
      · have h := h.1 c9
        refine lv_aload_n hx hb dX8_set_49 rfl (lv_at hl 0 rfl) ?_
        refine f_X8_23 X hp dX8_set_50 ?_
        refine lv_bipush (v := (nI 40)) hx hb dX8_set_53 (by decide) ?_
        refine lv_iload_n hx hb dX8_set_55 rfl (lv_at hl 1 rfl) ?_
        refine lv_imul hx hb dX8_set_56 ?_
        refine lv_iload_n hx hb dX8_set_57 rfl (lv_at hl 2 rfl) ?_
        refine lv_iadd hx hb dX8_set_58 ?_
        refine lv_iload_n hx hb dX8_set_59 rfl (lv_at hl 3 rfl) ?_
        refine lv_aload_n hx hb dX8_set_60 rfl (lv_at hl 0 rfl) ?_
        refine f_X8_17 X hp dX8_set_61 ?_
        refine lv_iload_n hx hb dX8_set_64 rfl (lv_at hl 1 rfl) ?_
        have hv10 := h.1
        have h := h.2
        refine al_i X hp ar_s318 hv10 dX8_set_65 ?_
        refine ki (kS (As := [.int x3, .int (I7 318 x1.toNatClampNeg)]) (rest := [.int (((nI 40) * x1) + x2), .ref (E.2.1 320)]) X hp (C_X8_narrow  h) tw_ml_X8_63 sf_X8_narrow ⟨rfl, rfl, Nat.le_of_ble_eq_true rfl, Nat.le_of_ble_eq_true rfl⟩ rfl hl.1 rfl (Nat.le_of_ble_eq_true rfl) dX8_set_66) hp (fun r12 I11 H locs h hp => ?_)
        have hv13 := h.1
        have h := h.2
        refine as_i X hp ar_s320 hv13 dX8_set_69 (fun H locs hp => ?_)
        obtain ⟨I14, e15⟩ : ∃ y, y = su I11 320 (((nI 40) * x1) + x2).toNatClampNeg r12 := ⟨_, rfl⟩
        have hp : PP E s H locs I14 := by rw [e15]; exact hp
        have h := h I14 e15
        refine lv_aload_n hx hb dX8_set_70 rfl (lv_at hl 0 rfl) ?_
        refine lv_aload_n hx hb dX8_set_71 rfl (lv_at hl 0 rfl) ?_
        refine f_X8_23 X hp dX8_set_72 ?_
        refine lv_bipush (v := (nI 40)) hx hb dX8_set_75 (by decide) ?_
        refine lv_iload_n hx hb dX8_set_77 rfl (lv_at hl 1 rfl) ?_
        refine lv_imul hx hb dX8_set_78 ?_
        refine lv_iload_n hx hb dX8_set_79 rfl (lv_at hl 2 rfl) ?_
        refine lv_iadd hx hb dX8_set_80 ?_
        have hv16 := h.1
        have h := h.2
        refine al_i X hp ar_s320 hv16 dX8_set_81 ?_
        refine ki (kV (As := [.int (I14 320 (((nI 40) * x1) + x2).toNatClampNeg)]) (rest := []) X hp (C_X8_well  h) tw_ml_X8_60 vf_X8_well ⟨rfl, rfl, Nat.le_of_ble_eq_true rfl, Nat.le_of_ble_eq_true rfl⟩ (pr_rcv X hp (k := 315) (by decide) (ob_315 _) (q := (RX8, TX8, 18)) rfl) rfl hl.1 rfl (Nat.le_of_ble_eq_true rfl) dX8_set_82) hp (fun r18 I17 H locs h hp => ?_)
        exact rt_i X hp h dX8_set_85
      · have h := h.2 c9
        refine lv_aload_n hx hb dX8_set_43 rfl (lv_at hl 0 rfl) ?_
        refine lv_iconst (v := (nI 2)) hx hb dX8_set_44 (by decide) ?_
        refine ki (kV (As := [.int (nI 2)]) (rest := []) X hp (C_X8_find  h) tw_ml_X8_56 vf_X8_find ⟨rfl, rfl, Nat.le_of_ble_eq_true rfl, Nat.le_of_ble_eq_true rfl⟩ (pr_rcv X hp (k := 315) (by decide) (ob_315 _) (q := (RX8, TX8, 18)) rfl) rfl hl.1 rfl (Nat.le_of_ble_eq_true rfl) dX8_set_45) hp (fun r20 I19 H locs h hp => ?_)
        exact rt_i X hp h dX8_set_48
    · have h := h.2 c5
      refine lv_aload_n hx hb dX8_set_19 rfl (lv_at hl 0 rfl) ?_
      refine lv_iconst (v := (nI 1)) hx hb dX8_set_20 (by decide) ?_
      refine ki (kV (As := [.int (nI 1)]) (rest := []) X hp (C_X8_find  h) tw_ml_X8_56 vf_X8_find ⟨rfl, rfl, Nat.le_of_ble_eq_true rfl, Nat.le_of_ble_eq_true rfl⟩ (pr_rcv X hp (k := 315) (by decide) (ob_315 _) (q := (RX8, TX8, 18)) rfl) rfl hl.1 rfl (Nat.le_of_ble_eq_true rfl) dX8_set_21) hp (fun r22 I21 H locs h hp => ?_)
      exact rt_i X hp h dX8_set_24
  · have h := h.2 c3
    refine lv_ldc (v := (-nI 1000001)) hx hb hown (hts _ tw_k_X8_55) dX8_set_7 ?_
    exact rt_i X hp h dX8_set_9
set_option maxRecDepth 100000 in
theorem C_X8_set {E : EE} {l : Launch} {x1 : Int32} {x2 : Int32} {x3 : Int32} {I : II} {Q : Int32 → II → Prop} (h : wp_X8_set x1 x2 x3 I Q) : Met l yX8_set (Cond.code yX8_set cX8_set 4 (some .int) :: lwT) rmX8_set (va_Pc [.ref (E.2.1 315), .int x1, .int x2, .int x3] (PU E I)) (va_Qi Q (BU E) E.2.2.2.1) 0 0 E.2.2.2.1 :=
  ofWalk [.ref (E.2.1 315), .int x1, .int x2, .int x3] (by decide) tw_c_X8_set (Nat.le_of_ble_eq_true rfl) (fun p e s m below meth c ls X hp hl => w_X8_set_0 X _ _ _ _ _ _ _ h hp hl)
abbrev rmX8_isSpan : Room := { frames := 0, cells := 0, slots := 0, locals := 0 }
theorem vf_X8_isSpan : VF yX8_isSpan RX8 cX8_isSpan 4 (some .boolean) 3 := ⟨tw_in_X8, tw_im_X8_isSpan, tw_se_X8_isSpan, tw_c_X8_isSpan, by decide, by decide, by decide +kernel⟩
def wp_X8_isSpan (x1 : Int32) (x2 : Int32) (x3 : Int32) (I : II) (Q : Int32 → II → Prop) : Prop := ((x2 < 0 → (Q (nI 0) I)) ∧ (¬ x2 < 0 → ((x3 < 0 → (Q (nI 0) I)) ∧ (¬ x3 < 0 → (vp_in x1 8 ∧ ((0 < (lg_cmp (x2.toInt64 + x3.toInt64) (I 319 x1.toNatClampNeg).toInt64) → (Q (nI 0) I)) ∧ (¬ 0 < (lg_cmp (x2.toInt64 + x3.toInt64) (I 319 x1.toNatClampNeg).toInt64) → (Q (nI 1) I))))))))
set_option maxHeartbeats 4000000 in
set_option maxRecDepth 100000 in
theorem w_X8_isSpan_0 {E : EE} {p : Program} {l : Launch} {e : Env} {s : State} {m : MethodId} {args : Array Value} {below : List Frame} {meth : Method} {c : Code} {Q : Int32 → II → Prop} (X : CX E p s m args meth c cX8_isSpan 4 (some .boolean) RX8) : ∀ (x1 : Int32) (x2 : Int32) (x3 : Int32) (I : II) (H : Heap) (locs : List Loc) (ls : Array Slot), wp_X8_isSpan x1 x2 x3 I Q → PP E s H locs I → lv_has ls 4 [(0, .ref (E.2.1 315)), (1, .int x1), (2, .int x2), (3, .int x3)] → W p l e rmX8_isSpan s m args below meth c H locs 0 0 (MQ below (va_Qi Q (BU E) E.2.2.2.1) args s 0 0 E.2.2.2.1) (F0 m 0 ls []) := by
  obtain ⟨⟨hx, hb, hml, hown, hts⟩, hr, hlk, hK, hST, hN⟩ := id X
  intro x1 x2 x3 I H locs ls h hp hl
  unfold wp_X8_isSpan at h
  refine lv_iload_n hx hb dX8_isSpan_0 rfl (lv_at hl 2 rfl) ?_
  refine lv_if_lt (tgt := 28) hx hb dX8_isSpan_1 (by decide) (fun c1 => ?_) (fun c1 => ?_)
  · have h := h.1 c1
    refine lv_iconst (v := (nI 0)) hx hb dX8_isSpan_28 (by decide) ?_
    exact rt_z X hp ⟨Or.inl rfl, h⟩ dX8_isSpan_29
  · have h := h.2 c1
    refine lv_iload_n hx hb dX8_isSpan_4 rfl (lv_at hl 3 rfl) ?_
    refine lv_if_lt (tgt := 28) hx hb dX8_isSpan_5 (by decide) (fun c2 => ?_) (fun c2 => ?_)
    · have h := h.1 c2
      refine lv_iconst (v := (nI 0)) hx hb dX8_isSpan_28 (by decide) ?_
      exact rt_z X hp ⟨Or.inl rfl, h⟩ dX8_isSpan_29
    · have h := h.2 c2
      refine lv_iload_n hx hb dX8_isSpan_8 rfl (lv_at hl 2 rfl) ?_
      refine lv_i2l (v := x2.toInt64) hx hb dX8_isSpan_9 rfl ?_
      refine lv_iload_n hx hb dX8_isSpan_10 rfl (lv_at hl 3 rfl) ?_
      refine lv_i2l (v := x3.toInt64) hx hb dX8_isSpan_11 rfl ?_
      refine lv_ladd hx hb dX8_isSpan_12 ?_
      refine lv_aload_n hx hb dX8_isSpan_13 rfl (lv_at hl 0 rfl) ?_
      refine f_X8_20 X hp dX8_isSpan_14 ?_
      refine lv_iload_n hx hb dX8_isSpan_17 rfl (lv_at hl 1 rfl) ?_
      have hv3 := h.1
      have h := h.2
      refine al_i X hp ar_s319 hv3 dX8_isSpan_18 ?_
      refine lv_i2l (v := (I 319 x1.toNatClampNeg).toInt64) hx hb dX8_isSpan_19 rfl ?_
      refine W.lcmp hx hb dX8_isSpan_20 ?_
      refine lv_if_gt (tgt := 28) hx hb dX8_isSpan_21 (by decide) (fun c4 => ?_) (fun c4 => ?_)
      · have h := h.1 c4
        refine lv_iconst (v := (nI 0)) hx hb dX8_isSpan_28 (by decide) ?_
        exact rt_z X hp ⟨Or.inl rfl, h⟩ dX8_isSpan_29
      · have h := h.2 c4
        refine lv_iconst (v := (nI 1)) hx hb dX8_isSpan_24 (by decide) ?_
        refine lv_goto (tgt := 29) hx hb dX8_isSpan_25 (by decide) ?_
        exact rt_z X hp ⟨Or.inr rfl, h⟩ dX8_isSpan_29
set_option maxRecDepth 100000 in
theorem C_X8_isSpan {E : EE} {l : Launch} {x1 : Int32} {x2 : Int32} {x3 : Int32} {I : II} {Q : Int32 → II → Prop} (h : wp_X8_isSpan x1 x2 x3 I Q) : Met l yX8_isSpan (Cond.code yX8_isSpan cX8_isSpan 4 (some .boolean) :: lwT) rmX8_isSpan (va_Pc [.ref (E.2.1 315), .int x1, .int x2, .int x3] (PU E I)) (va_Qi Q (BU E) E.2.2.2.1) 0 0 E.2.2.2.1 :=
  ofWalk [.ref (E.2.1 315), .int x1, .int x2, .int x3] (by decide) tw_c_X8_isSpan (Nat.le_of_ble_eq_true rfl) (fun p e s m below meth c ls X hp hl => w_X8_isSpan_0 X _ _ _ _ _ _ _ h hp hl)
abbrev rmX8_copy : Room := { frames := 2, cells := 0, slots := 0, locals := 45 }
theorem vf_X8_copy : VF yX8_copy RX8 cX8_copy 9 (some .int) 5 := ⟨tw_in_X8, tw_im_X8_copy, tw_se_X8_copy, tw_c_X8_copy, by decide, by decide, by decide +kernel⟩
def wp_X8_copy_35 (Q : Int32 → II → Prop) (I : II) : Prop := (wp_X8_find (nI 1) I (fun r2 I1 => (Q r2 I1)))
set_option maxHeartbeats 4000000 in
set_option maxRecDepth 100000 in
theorem w_X8_copy_35 {E : EE} {p : Program} {l : Launch} {e : Env} {s : State} {m : MethodId} {args : Array Value} {below : List Frame} {meth : Method} {c : Code} {Q : Int32 → II → Prop} (X : CX E p s m args meth c cX8_copy 9 (some .int) RX8) : ∀ (I : II) (H : Heap) (locs : List Loc) (ls : Array Slot), wp_X8_copy_35 Q I → PP E s H locs I → lv_has ls 9 [(0, .ref (E.2.1 315))] → W p l e rmX8_copy s m args below meth c H locs 0 0 (MQ below (va_Qi Q (BU E) E.2.2.2.1) args s 0 0 E.2.2.2.1) (F0 m 35 ls []) := by
  obtain ⟨⟨hx, hb, hml, hown, hts⟩, hr, hlk, hK, hST, hN⟩ := id X
  intro I H locs ls h hp hl
  unfold wp_X8_copy_35 at h
  refine lv_aload_n hx hb dX8_copy_35 rfl (lv_at hl 0 rfl) ?_
  refine lv_iconst (v := (nI 1)) hx hb dX8_copy_36 (by decide) ?_
  refine ki (kV (As := [.int (nI 1)]) (rest := []) X hp (C_X8_find  h) tw_ml_X8_56 vf_X8_find ⟨rfl, rfl, Nat.le_of_ble_eq_true rfl, Nat.le_of_ble_eq_true rfl⟩ (pr_rcv X hp (k := 315) (by decide) (ob_315 _) (q := (RX8, TX8, 18)) rfl) rfl hl.1 rfl (Nat.le_of_ble_eq_true rfl) dX8_copy_37) hp (fun r2 I1 H locs h hp => ?_)
  exact rt_i X hp h dX8_copy_40
def wp_X8_copy_85 (Q : Int32 → II → Prop) (I : II) : Prop := (wp_X8_find (nI 2) I (fun r2 I1 => (Q r2 I1)))
set_option maxHeartbeats 4000000 in
set_option maxRecDepth 100000 in
theorem w_X8_copy_85 {E : EE} {p : Program} {l : Launch} {e : Env} {s : State} {m : MethodId} {args : Array Value} {below : List Frame} {meth : Method} {c : Code} {Q : Int32 → II → Prop} (X : CX E p s m args meth c cX8_copy 9 (some .int) RX8) : ∀ (I : II) (H : Heap) (locs : List Loc) (ls : Array Slot), wp_X8_copy_85 Q I → PP E s H locs I → lv_has ls 9 [(0, .ref (E.2.1 315))] → W p l e rmX8_copy s m args below meth c H locs 0 0 (MQ below (va_Qi Q (BU E) E.2.2.2.1) args s 0 0 E.2.2.2.1) (F0 m 85 ls []) := by
  obtain ⟨⟨hx, hb, hml, hown, hts⟩, hr, hlk, hK, hST, hN⟩ := id X
  intro I H locs ls h hp hl
  unfold wp_X8_copy_85 at h
  refine lv_aload_n hx hb dX8_copy_85 rfl (lv_at hl 0 rfl) ?_
  refine lv_iconst (v := (nI 2)) hx hb dX8_copy_86 (by decide) ?_
  refine ki (kV (As := [.int (nI 2)]) (rest := []) X hp (C_X8_find  h) tw_ml_X8_56 vf_X8_find ⟨rfl, rfl, Nat.le_of_ble_eq_true rfl, Nat.le_of_ble_eq_true rfl⟩ (pr_rcv X hp (k := 315) (by decide) (ob_315 _) (q := (RX8, TX8, 18)) rfl) rfl hl.1 rfl (Nat.le_of_ble_eq_true rfl) dX8_copy_87) hp (fun r2 I1 H locs h hp => ?_)
  exact rt_i X hp h dX8_copy_90
def wp_X8_copy_131 (Q : Int32 → II → Prop) (k107 : Int32 → Int32 → Int32 → Int32 → Int32 → Int32 → Int32 → II → Prop) (x1 : Int32) (x2 : Int32) (x3 : Int32) (x4 : Int32) (x5 : Int32) (x6 : Int32) (x7 : Int32) (v0 : Int32) (I : II) : Prop := (vp_in ((((nI 40) * x1) + x2) + v0) 320 ∧ (vp_in ((((nI 40) * x3) + x4) + v0) 320 ∧ ∀ I3 : II, I3 = su I 320 ((((nI 40) * x3) + x4) + v0).toNatClampNeg (I 320 ((((nI 40) * x1) + x2) + v0).toNatClampNeg) → (k107 x1 x2 x3 x4 x5 x6 (x7 + (nI 1)) I3)))
set_option maxHeartbeats 4000000 in
set_option maxRecDepth 100000 in
theorem w_X8_copy_131 {E : EE} {p : Program} {l : Launch} {e : Env} {s : State} {m : MethodId} {args : Array Value} {below : List Frame} {meth : Method} {c : Code} {Q : Int32 → II → Prop} {k107 : Int32 → Int32 → Int32 → Int32 → Int32 → Int32 → Int32 → II → Prop} (X : CX E p s m args meth c cX8_copy 9 (some .int) RX8) (K107 : ∀ (x1 : Int32) (x2 : Int32) (x3 : Int32) (x4 : Int32) (x5 : Int32) (x6 : Int32) (x7 : Int32) (I : II) (H : Heap) (locs : List Loc) (ls : Array Slot), k107 x1 x2 x3 x4 x5 x6 x7 I → PP E s H locs I → lv_has ls 9 [(0, .ref (E.2.1 315)), (1, .int x1), (2, .int x2), (3, .int x3), (4, .int x4), (5, .int x5), (6, .int x6), (7, .int x7)] → W p l e rmX8_copy s m args below meth c H locs 0 0 (MQ below (va_Qi Q (BU E) E.2.2.2.1) args s 0 0 E.2.2.2.1) (F0 m 107 ls [])) : ∀ (x1 : Int32) (x2 : Int32) (x3 : Int32) (x4 : Int32) (x5 : Int32) (x6 : Int32) (x7 : Int32) (v0 : Int32) (I : II) (H : Heap) (locs : List Loc) (ls : Array Slot), wp_X8_copy_131 Q k107 x1 x2 x3 x4 x5 x6 x7 v0 I → PP E s H locs I → lv_has ls 9 [(0, .ref (E.2.1 315)), (1, .int x1), (2, .int x2), (3, .int x3), (4, .int x4), (5, .int x5), (6, .int x6), (7, .int x7)] → W p l e rmX8_copy s m args below meth c H locs 0 0 (MQ below (va_Qi Q (BU E) E.2.2.2.1) args s 0 0 E.2.2.2.1) (F0 m 131 ls [.int v0]) := by
  obtain ⟨⟨hx, hb, hml, hown, hts⟩, hr, hlk, hK, hST, hN⟩ := id X
  intro x1 x2 x3 x4 x5 x6 x7 v0 I H locs ls h hp hl
  unfold wp_X8_copy_131 at h
  refine lv_istore (lv' := [(8, .int v0), (0, .ref (E.2.1 315)), (1, .int x1), (2, .int x2), (3, .int x3), (4, .int x4), (5, .int x5), (6, .int x6), (7, .int x7)]) hx hb dX8_copy_131 hl (by decide) rfl (fun ls hl => ?_)
  refine lv_aload_n hx hb dX8_copy_133 rfl (lv_at hl 1 rfl) ?_
  refine f_X8_23 X hp dX8_copy_134 ?_
  refine lv_bipush (v := (nI 40)) hx hb dX8_copy_137 (by decide) ?_
  refine lv_iload_n hx hb dX8_copy_139 rfl (lv_at hl 4 rfl) ?_
  refine lv_imul hx hb dX8_copy_140 ?_
  refine lv_iload hx hb dX8_copy_141 (lv_at hl 5 rfl) ?_
  refine lv_iadd hx hb dX8_copy_143 ?_
  refine lv_iload hx hb dX8_copy_144 (lv_at hl 0 rfl) ?_
  refine lv_iadd hx hb dX8_copy_146 ?_
  refine lv_aload_n hx hb dX8_copy_147 rfl (lv_at hl 1 rfl) ?_
  refine f_X8_23 X hp dX8_copy_148 ?_
  refine lv_bipush (v := (nI 40)) hx hb dX8_copy_151 (by decide) ?_
  refine lv_iload_n hx hb dX8_copy_153 rfl (lv_at hl 2 rfl) ?_
  refine lv_imul hx hb dX8_copy_154 ?_
  refine lv_iload_n hx hb dX8_copy_155 rfl (lv_at hl 3 rfl) ?_
  refine lv_iadd hx hb dX8_copy_156 ?_
  refine lv_iload hx hb dX8_copy_157 (lv_at hl 0 rfl) ?_
  refine lv_iadd hx hb dX8_copy_159 ?_
  have hv1 := h.1
  have h := h.2
  refine al_i X hp ar_s320 hv1 dX8_copy_160 ?_
  have hv2 := h.1
  have h := h.2
  refine as_i X hp ar_s320 hv2 dX8_copy_161 (fun H locs hp => ?_)
  obtain ⟨I3, e4⟩ : ∃ y, y = su I 320 ((((nI 40) * x3) + x4) + v0).toNatClampNeg (I 320 ((((nI 40) * x1) + x2) + v0).toNatClampNeg) := ⟨_, rfl⟩
  have hp : PP E s H locs I3 := by rw [e4]; exact hp
  have h := h I3 e4
  refine lv_iinc (v := (x7 + (nI 1))) (lv' := [(7, .int (x7 + (nI 1))), (8, .int v0), (0, .ref (E.2.1 315)), (1, .int x1), (2, .int x2), (3, .int x3), (4, .int x4), (5, .int x5), (6, .int x6)]) hx hb dX8_copy_162 hl (k := 8) rfl rfl (by decide) rfl (fun ls hl => ?_)
  refine lv_goto (tgt := 107) hx hb dX8_copy_165 (by decide) ?_
  exact K107 _ _ _ _ _ _ _ _ _ _ _ h hp (lv_sub hl [2, 3, 4, 5, 6, 7, 8, 0] rfl)
def wp_X8_copy_107 (Q : Int32 → II → Prop) (k168 : Int32 → II → Prop) : Nat → Int32 → Int32 → Int32 → Int32 → Int32 → Int32 → Int32 → II → Prop
  | 0, _, _, _, _, _, _, _, _ => False
  | n + 1, x1, x2, x3, x4, x5, x6, x7, I => ((x5 ≤ x7 → (k168 x5 I)) ∧ (¬ x5 ≤ x7 → ((x6 = 0 → (wp_X8_copy_131 Q (fun x1 x2 x3 x4 x5 x6 x7 I => wp_X8_copy_107 Q k168 n x1 x2 x3 x4 x5 x6 x7 I) x1 x2 x3 x4 x5 x6 x7 x7 I)) ∧ (¬ x6 = 0 → (wp_X8_copy_131 Q (fun x1 x2 x3 x4 x5 x6 x7 I => wp_X8_copy_107 Q k168 n x1 x2 x3 x4 x5 x6 x7 I) x1 x2 x3 x4 x5 x6 x7 ((x5 - (nI 1)) - x7) I)))))
set_option maxHeartbeats 4000000 in
set_option maxRecDepth 100000 in
theorem w_X8_copy_107 {E : EE} {p : Program} {l : Launch} {e : Env} {s : State} {m : MethodId} {args : Array Value} {below : List Frame} {meth : Method} {c : Code} {Q : Int32 → II → Prop} {k168 : Int32 → II → Prop} (X : CX E p s m args meth c cX8_copy 9 (some .int) RX8) (K168 : ∀ (x5 : Int32) (I : II) (H : Heap) (locs : List Loc) (ls : Array Slot), k168 x5 I → PP E s H locs I → lv_has ls 9 [(0, .ref (E.2.1 315)), (5, .int x5)] → W p l e rmX8_copy s m args below meth c H locs 0 0 (MQ below (va_Qi Q (BU E) E.2.2.2.1) args s 0 0 E.2.2.2.1) (F0 m 168 ls [])) : ∀ (n : Nat) (x1 : Int32) (x2 : Int32) (x3 : Int32) (x4 : Int32) (x5 : Int32) (x6 : Int32) (x7 : Int32) (I : II) (H : Heap) (locs : List Loc) (ls : Array Slot), wp_X8_copy_107 Q k168 n x1 x2 x3 x4 x5 x6 x7 I → PP E s H locs I → lv_has ls 9 [(0, .ref (E.2.1 315)), (1, .int x1), (2, .int x2), (3, .int x3), (4, .int x4), (5, .int x5), (6, .int x6), (7, .int x7)] → W p l e rmX8_copy s m args below meth c H locs 0 0 (MQ below (va_Qi Q (BU E) E.2.2.2.1) args s 0 0 E.2.2.2.1) (F0 m 107 ls []) := by
  obtain ⟨⟨hx, hb, hml, hown, hts⟩, hr, hlk, hK, hST, hN⟩ := id X
  intro n
  induction n with
  | zero =>
    intro x1 x2 x3 x4 x5 x6 x7 I H locs ls h hp hl
    exact False.elim h
  | succ n ih =>
    intro x1 x2 x3 x4 x5 x6 x7 I H locs ls h hp hl
    rw [wp_X8_copy_107.eq_2] at h
    refine lv_iload hx hb dX8_copy_107 (lv_at hl 7 rfl) ?_
    refine lv_iload hx hb dX8_copy_109 (lv_at hl 5 rfl) ?_
    refine lv_icmp_ge (tgt := 168) hx hb dX8_copy_111 (by decide) (fun c1 => ?_) (fun c1 => ?_)
    · have h := h.1 c1
      exact K168 _ _ _ _ _ h hp (lv_sub hl [0, 5] rfl)
    · have h := h.2 c1
      refine lv_iload hx hb dX8_copy_114 (lv_at hl 6 rfl) ?_
      refine lv_if_eq (tgt := 129) hx hb dX8_copy_116 (by decide) (fun c2 => ?_) (fun c2 => ?_)
      · have h := h.1 c2
        refine lv_iload hx hb dX8_copy_129 (lv_at hl 7 rfl) ?_
        exact w_X8_copy_131 X ih _ _ _ _ _ _ _ _ _ _ _ _ h hp (lv_sub hl [0, 1, 2, 3, 4, 5, 6, 7] rfl)
      · have h := h.2 c2
        refine lv_iload hx hb dX8_copy_119 (lv_at hl 5 rfl) ?_
        refine lv_iconst (v := (nI 1)) hx hb dX8_copy_121 (by decide) ?_
        refine lv_isub hx hb dX8_copy_122 ?_
        refine lv_iload hx hb dX8_copy_123 (lv_at hl 7 rfl) ?_
        refine lv_isub hx hb dX8_copy_125 ?_
        refine lv_goto (tgt := 131) hx hb dX8_copy_126 (by decide) ?_
        exact w_X8_copy_131 X ih _ _ _ _ _ _ _ _ _ _ _ _ h hp (lv_sub hl [0, 1, 2, 3, 4, 5, 6, 7] rfl)
def wp_X8_copy_102 (Q : Int32 → II → Prop) (x1 : Int32) (x2 : Int32) (x3 : Int32) (x4 : Int32) (x5 : Int32) (v0 : Int32) (I : II) : Prop := (∃ n53, wp_X8_copy_107 Q (fun x5 I => (wp_X8_well x5 I (fun r52 I51 => (Q r52 I51)))) n53 x1 x2 x3 x4 x5 v0 (nI 0) I)
set_option maxHeartbeats 4000000 in
set_option maxRecDepth 100000 in
theorem w_X8_copy_102 {E : EE} {p : Program} {l : Launch} {e : Env} {s : State} {m : MethodId} {args : Array Value} {below : List Frame} {meth : Method} {c : Code} {Q : Int32 → II → Prop} (X : CX E p s m args meth c cX8_copy 9 (some .int) RX8) : ∀ (x1 : Int32) (x2 : Int32) (x3 : Int32) (x4 : Int32) (x5 : Int32) (v0 : Int32) (I : II) (H : Heap) (locs : List Loc) (ls : Array Slot), wp_X8_copy_102 Q x1 x2 x3 x4 x5 v0 I → PP E s H locs I → lv_has ls 9 [(0, .ref (E.2.1 315)), (1, .int x1), (2, .int x2), (3, .int x3), (4, .int x4), (5, .int x5)] → W p l e rmX8_copy s m args below meth c H locs 0 0 (MQ below (va_Qi Q (BU E) E.2.2.2.1) args s 0 0 E.2.2.2.1) (F0 m 102 ls [.int v0]) := by
  obtain ⟨⟨hx, hb, hml, hown, hts⟩, hr, hlk, hK, hST, hN⟩ := id X
  intro x1 x2 x3 x4 x5 v0 I H locs ls h hp hl
  unfold wp_X8_copy_102 at h
  refine lv_istore (lv' := [(6, .int v0), (0, .ref (E.2.1 315)), (1, .int x1), (2, .int x2), (3, .int x3), (4, .int x4), (5, .int x5)]) hx hb dX8_copy_102 hl (by decide) rfl (fun ls hl => ?_)
  refine lv_iconst (v := (nI 0)) hx hb dX8_copy_104 (by decide) ?_
  refine lv_istore (lv' := [(7, .int (nI 0)), (6, .int v0), (0, .ref (E.2.1 315)), (1, .int x1), (2, .int x2), (3, .int x3), (4, .int x4), (5, .int x5)]) hx hb dX8_copy_105 hl (by decide) rfl (fun ls hl => ?_)
  obtain ⟨n53, h⟩ := h
  refine w_X8_copy_107 X ?_ n53 _ _ _ _ _ _ _ _ _ _ _ h hp (lv_sub hl [2, 3, 4, 5, 6, 7, 1, 0] rfl)
  · intro x5 I H locs ls h hp hl
    refine lv_aload_n hx hb dX8_copy_168 rfl (lv_at hl 0 rfl) ?_
    refine lv_iload hx hb dX8_copy_169 (lv_at hl 1 rfl) ?_
    refine ki (kV (As := [.int x5]) (rest := []) X hp (C_X8_well  h) tw_ml_X8_60 vf_X8_well ⟨rfl, rfl, Nat.le_of_ble_eq_true rfl, Nat.le_of_ble_eq_true rfl⟩ (pr_rcv X hp (k := 315) (by decide) (ob_315 _) (q := (RX8, TX8, 18)) rfl) rfl hl.1 rfl (Nat.le_of_ble_eq_true rfl) dX8_copy_171) hp (fun r52 I51 H locs h hp => ?_)
    exact rt_i X hp h dX8_copy_174
def wp_X8_copy (x1 : Int32) (x2 : Int32) (x3 : Int32) (x4 : Int32) (x5 : Int32) (I : II) (Q : Int32 → II → Prop) : Prop := (wp_X8_isRow x1 I (fun r2 I1 => ((r2 = 0 → (Q (-nI 1000001) I1)) ∧ (¬ r2 = 0 → (wp_X8_isRow x3 I1 (fun r5 I4 => ((¬ r5 = 0 → (vp_in x1 8 ∧ (((I4 319 x1.toNatClampNeg) < 0 → (wp_X8_copy_35 Q I4)) ∧ (¬ (I4 319 x1.toNatClampNeg) < 0 → (vp_in x3 8 ∧ ((0 ≤ (I4 319 x3.toNatClampNeg) → (vp_in x1 8 ∧ (vp_in x3 8 ∧ (((I4 318 x1.toNatClampNeg) = (I4 318 x3.toNatClampNeg) → (wp_X8_isSpan x1 x2 x5 I4 (fun r15 I14 => ((r15 = 0 → (wp_X8_copy_85 Q I14)) ∧ (¬ r15 = 0 → (wp_X8_isSpan x3 x4 x5 I14 (fun r18 I17 => ((¬ r18 = 0 → ((x4 ≤ x2 → (wp_X8_copy_102 Q x1 x2 x3 x4 x5 (nI 0) I17)) ∧ (¬ x4 ≤ x2 → (wp_X8_copy_102 Q x1 x2 x3 x4 x5 (nI 1) I17)))) ∧ (r18 = 0 → (wp_X8_copy_85 Q I17)))))))))) ∧ (¬ (I4 318 x1.toNatClampNeg) = (I4 318 x3.toNatClampNeg) → (wp_X8_find (nI 5) I4 (fun r22 I21 => (Q r22 I21)))))))) ∧ (¬ 0 ≤ (I4 319 x3.toNatClampNeg) → (wp_X8_copy_35 Q I4)))))))) ∧ (r5 = 0 → (Q (-nI 1000001) I4)))))))))
set_option maxHeartbeats 4000000 in
set_option maxRecDepth 100000 in
theorem w_X8_copy_0 {E : EE} {p : Program} {l : Launch} {e : Env} {s : State} {m : MethodId} {args : Array Value} {below : List Frame} {meth : Method} {c : Code} {Q : Int32 → II → Prop} (X : CX E p s m args meth c cX8_copy 9 (some .int) RX8) : ∀ (x1 : Int32) (x2 : Int32) (x3 : Int32) (x4 : Int32) (x5 : Int32) (I : II) (H : Heap) (locs : List Loc) (ls : Array Slot), wp_X8_copy x1 x2 x3 x4 x5 I Q → PP E s H locs I → lv_has ls 9 [(0, .ref (E.2.1 315)), (1, .int x1), (2, .int x2), (3, .int x3), (4, .int x4), (5, .int x5)] → W p l e rmX8_copy s m args below meth c H locs 0 0 (MQ below (va_Qi Q (BU E) E.2.2.2.1) args s 0 0 E.2.2.2.1) (F0 m 0 ls []) := by
  obtain ⟨⟨hx, hb, hml, hown, hts⟩, hr, hlk, hK, hST, hN⟩ := id X
  intro x1 x2 x3 x4 x5 I H locs ls h hp hl
  unfold wp_X8_copy at h
  refine lv_iload_n hx hb dX8_copy_0 rfl (lv_at hl 1 rfl) ?_
  refine ki (kS (As := [.int x1]) (rest := []) X hp (C_X8_isRow  h) tw_ml_X8_49 sf_X8_isRow ⟨rfl, rfl, Nat.le_of_ble_eq_true rfl, Nat.le_of_ble_eq_true rfl⟩ rfl hl.1 rfl (Nat.le_of_ble_eq_true rfl) dX8_copy_1) hp (fun r2 I1 H locs h hp => ?_)
  refine lv_if_eq (tgt := 14) hx hb dX8_copy_4 (by decide) (fun c3 => ?_) (fun c3 => ?_)
  · have h := h.1 c3
    refine lv_ldc (v := (-nI 1000001)) hx hb hown (hts _ tw_k_X8_55) dX8_copy_14 ?_
    exact rt_i X hp h dX8_copy_16
  · have h := h.2 c3
    refine lv_iload_n hx hb dX8_copy_7 rfl (lv_at hl 3 rfl) ?_
    refine ki (kS (As := [.int x3]) (rest := []) X hp (C_X8_isRow  h) tw_ml_X8_49 sf_X8_isRow ⟨rfl, rfl, Nat.le_of_ble_eq_true rfl, Nat.le_of_ble_eq_true rfl⟩ rfl hl.1 rfl (Nat.le_of_ble_eq_true rfl) dX8_copy_8) hp (fun r5 I4 H locs h hp => ?_)
    refine lv_if_ne (tgt := 17) hx hb dX8_copy_11 (by decide) (fun c6 => ?_) (fun c6 => ?_)
    · have h := h.1 c6
      refine lv_aload_n hx hb dX8_copy_17 rfl (lv_at hl 0 rfl) ?_
      refine f_X8_20 X hp dX8_copy_18 ?_
      refine lv_iload_n hx hb dX8_copy_21 rfl (lv_at hl 1 rfl) ?_
      have hv7 := h.1
      have h := h.2
      refine al_i X hp ar_s319 hv7 dX8_copy_22 ?_
      refine lv_if_lt (tgt := 35) hx hb dX8_copy_23 (by decide) (fun c8 => ?_) (fun c8 => ?_)
      · have h := h.1 c8
        exact w_X8_copy_35 X  _ _ _ _ h hp (lv_sub hl [0] rfl)
      · have h := h.2 c8
        refine lv_aload_n hx hb dX8_copy_26 rfl (lv_at hl 0 rfl) ?_
        refine f_X8_20 X hp dX8_copy_27 ?_
        refine lv_iload_n hx hb dX8_copy_30 rfl (lv_at hl 3 rfl) ?_
        have hv9 := h.1
        have h := h.2
        refine al_i X hp ar_s319 hv9 dX8_copy_31 ?_
        refine lv_if_ge (tgt := 41) hx hb dX8_copy_32 (by decide) (fun c10 => ?_) (fun c10 => ?_)
        · have h := h.1 c10
          refine lv_aload_n hx hb dX8_copy_41 rfl (lv_at hl 0 rfl) ?_
          refine f_X8_17 X hp dX8_copy_42 ?_
          refine lv_iload_n hx hb dX8_copy_45 rfl (lv_at hl 1 rfl) ?_
          have hv11 := h.1
          have h := h.2
          refine al_i X hp ar_s318 hv11 dX8_copy_46 ?_
          refine lv_aload_n hx hb dX8_copy_47 rfl (lv_at hl 0 rfl) ?_
          refine f_X8_17 X hp dX8_copy_48 ?_
          refine lv_iload_n hx hb dX8_copy_51 rfl (lv_at hl 3 rfl) ?_
          have hv12 := h.1
          have h := h.2
          refine al_i X hp ar_s318 hv12 dX8_copy_52 ?_
          refine lv_icmp_eq (tgt := 62) hx hb dX8_copy_53 (by decide) (fun c13 => ?_) (fun c13 => ?_)
          · have h := h.1 c13
            refine lv_aload_n hx hb dX8_copy_62 rfl (lv_at hl 0 rfl) ?_
            refine lv_iload_n hx hb dX8_copy_63 rfl (lv_at hl 1 rfl) ?_
            refine lv_iload_n hx hb dX8_copy_64 rfl (lv_at hl 2 rfl) ?_
            refine lv_iload hx hb dX8_copy_65 (lv_at hl 5 rfl) ?_
            refine ki (kV (As := [.int x1, .int x2, .int x5]) (rest := []) X hp (C_X8_isSpan  h) tw_ml_X8_67 vf_X8_isSpan ⟨rfl, rfl, Nat.le_of_ble_eq_true rfl, Nat.le_of_ble_eq_true rfl⟩ (pr_rcv X hp (k := 315) (by decide) (ob_315 _) (q := (RX8, TX8, 18)) rfl) rfl hl.1 rfl (Nat.le_of_ble_eq_true rfl) dX8_copy_67) hp (fun r15 I14 H locs h hp => ?_)
            refine lv_if_eq (tgt := 85) hx hb dX8_copy_70 (by decide) (fun c16 => ?_) (fun c16 => ?_)
            · have h := h.1 c16
              exact w_X8_copy_85 X  _ _ _ _ h hp (lv_sub hl [0] rfl)
            · have h := h.2 c16
              refine lv_aload_n hx hb dX8_copy_73 rfl (lv_at hl 0 rfl) ?_
              refine lv_iload_n hx hb dX8_copy_74 rfl (lv_at hl 3 rfl) ?_
              refine lv_iload hx hb dX8_copy_75 (lv_at hl 4 rfl) ?_
              refine lv_iload hx hb dX8_copy_77 (lv_at hl 5 rfl) ?_
              refine ki (kV (As := [.int x3, .int x4, .int x5]) (rest := []) X hp (C_X8_isSpan  h) tw_ml_X8_67 vf_X8_isSpan ⟨rfl, rfl, Nat.le_of_ble_eq_true rfl, Nat.le_of_ble_eq_true rfl⟩ (pr_rcv X hp (k := 315) (by decide) (ob_315 _) (q := (RX8, TX8, 18)) rfl) rfl hl.1 rfl (Nat.le_of_ble_eq_true rfl) dX8_copy_79) hp (fun r18 I17 H locs h hp => ?_)
              refine lv_if_ne (tgt := 91) hx hb dX8_copy_82 (by decide) (fun c19 => ?_) (fun c19 => ?_)
              · have h := h.1 c19
                refine lv_iload_n hx hb dX8_copy_91 rfl (lv_at hl 2 rfl) ?_
                refine lv_iload hx hb dX8_copy_92 (lv_at hl 4 rfl) ?_
                refine lv_icmp_ge (tgt := 101) hx hb dX8_copy_94 (by decide) (fun c20 => ?_) (fun c20 => ?_)
                · have h := h.1 c20
                  refine lv_iconst (v := (nI 0)) hx hb dX8_copy_101 (by decide) ?_
                  exact w_X8_copy_102 X  _ _ _ _ _ _ _ _ _ _ h hp (lv_sub hl [0, 1, 2, 3, 4, 5] rfl)
                · have h := h.2 c20
                  refine lv_iconst (v := (nI 1)) hx hb dX8_copy_97 (by decide) ?_
                  refine lv_goto (tgt := 102) hx hb dX8_copy_98 (by decide) ?_
                  exact w_X8_copy_102 X  _ _ _ _ _ _ _ _ _ _ h hp (lv_sub hl [0, 1, 2, 3, 4, 5] rfl)
              · have h := h.2 c19
                exact w_X8_copy_85 X  _ _ _ _ h hp (lv_sub hl [0] rfl)
          · have h := h.2 c13
            refine lv_aload_n hx hb dX8_copy_56 rfl (lv_at hl 0 rfl) ?_
            refine lv_iconst (v := (nI 5)) hx hb dX8_copy_57 (by decide) ?_
            refine ki (kV (As := [.int (nI 5)]) (rest := []) X hp (C_X8_find  h) tw_ml_X8_56 vf_X8_find ⟨rfl, rfl, Nat.le_of_ble_eq_true rfl, Nat.le_of_ble_eq_true rfl⟩ (pr_rcv X hp (k := 315) (by decide) (ob_315 _) (q := (RX8, TX8, 18)) rfl) rfl hl.1 rfl (Nat.le_of_ble_eq_true rfl) dX8_copy_58) hp (fun r22 I21 H locs h hp => ?_)
            exact rt_i X hp h dX8_copy_61
        · have h := h.2 c10
          exact w_X8_copy_35 X  _ _ _ _ h hp (lv_sub hl [0] rfl)
    · have h := h.2 c6
      refine lv_ldc (v := (-nI 1000001)) hx hb hown (hts _ tw_k_X8_55) dX8_copy_14 ?_
      exact rt_i X hp h dX8_copy_16
set_option maxRecDepth 100000 in
theorem C_X8_copy {E : EE} {l : Launch} {x1 : Int32} {x2 : Int32} {x3 : Int32} {x4 : Int32} {x5 : Int32} {I : II} {Q : Int32 → II → Prop} (h : wp_X8_copy x1 x2 x3 x4 x5 I Q) : Met l yX8_copy (Cond.code yX8_copy cX8_copy 9 (some .int) :: lwT) rmX8_copy (va_Pc [.ref (E.2.1 315), .int x1, .int x2, .int x3, .int x4, .int x5] (PU E I)) (va_Qi Q (BU E) E.2.2.2.1) 0 0 E.2.2.2.1 :=
  ofWalk [.ref (E.2.1 315), .int x1, .int x2, .int x3, .int x4, .int x5] (by decide) tw_c_X8_copy (Nat.le_of_ble_eq_true rfl) (fun p e s m below meth c ls X hp hl => w_X8_copy_0 X _ _ _ _ _ _ _ _ _ h hp hl)
abbrev rmX8_drop : Room := { frames := 2, cells := 0, slots := 0, locals := 45 }
theorem vf_X8_drop : VF yX8_drop RX8 cX8_drop 3 (some .int) 1 := ⟨tw_in_X8, tw_im_X8_drop, tw_se_X8_drop, tw_c_X8_drop, by decide, by decide, by decide +kernel⟩
def wp_X8_drop (x1 : Int32) (I : II) (Q : Int32 → II → Prop) : Prop := (wp_X8_isRow x1 I (fun r2 I1 => ((¬ r2 = 0 → (vp_in x1 8 ∧ ((0 ≤ (I1 319 x1.toNatClampNeg) → (vp_in x1 8 ∧ (vp_in x1 8 ∧ ∀ I8 : II, I8 = su I1 319 x1.toNatClampNeg (-nI 1) → (wp_X8_well (I1 319 x1.toNatClampNeg) I8 (fun r11 I10 => (Q r11 I10)))))) ∧ (¬ 0 ≤ (I1 319 x1.toNatClampNeg) → (wp_X8_find (nI 1) I1 (fun r13 I12 => (Q r13 I12))))))) ∧ (r2 = 0 → (Q (-nI 1000001) I1)))))
set_option maxHeartbeats 4000000 in
set_option maxRecDepth 100000 in
theorem w_X8_drop_0 {E : EE} {p : Program} {l : Launch} {e : Env} {s : State} {m : MethodId} {args : Array Value} {below : List Frame} {meth : Method} {c : Code} {Q : Int32 → II → Prop} (X : CX E p s m args meth c cX8_drop 3 (some .int) RX8) : ∀ (x1 : Int32) (I : II) (H : Heap) (locs : List Loc) (ls : Array Slot), wp_X8_drop x1 I Q → PP E s H locs I → lv_has ls 3 [(0, .ref (E.2.1 315)), (1, .int x1)] → W p l e rmX8_drop s m args below meth c H locs 0 0 (MQ below (va_Qi Q (BU E) E.2.2.2.1) args s 0 0 E.2.2.2.1) (F0 m 0 ls []) := by
  obtain ⟨⟨hx, hb, hml, hown, hts⟩, hr, hlk, hK, hST, hN⟩ := id X
  intro x1 I H locs ls h hp hl
  unfold wp_X8_drop at h
  refine lv_iload_n hx hb dX8_drop_0 rfl (lv_at hl 1 rfl) ?_
  refine ki (kS (As := [.int x1]) (rest := []) X hp (C_X8_isRow  h) tw_ml_X8_49 sf_X8_isRow ⟨rfl, rfl, Nat.le_of_ble_eq_true rfl, Nat.le_of_ble_eq_true rfl⟩ rfl hl.1 rfl (Nat.le_of_ble_eq_true rfl) dX8_drop_1) hp (fun r2 I1 H locs h hp => ?_)
  refine lv_if_ne (tgt := 10) hx hb dX8_drop_4 (by decide) (fun c3 => ?_) (fun c3 => ?_)
  · have h := h.1 c3
    refine lv_aload_n hx hb dX8_drop_10 rfl (lv_at hl 0 rfl) ?_
    refine f_X8_20 X hp dX8_drop_11 ?_
    refine lv_iload_n hx hb dX8_drop_14 rfl (lv_at hl 1 rfl) ?_
    have hv4 := h.1
    have h := h.2
    refine al_i X hp ar_s319 hv4 dX8_drop_15 ?_
    refine lv_if_ge (tgt := 25) hx hb dX8_drop_16 (by decide) (fun c5 => ?_) (fun c5 => ?_)
    · have h := h.1 c5
      refine lv_aload_n hx hb dX8_drop_25 rfl (lv_at hl 0 rfl) ?_
      refine f_X8_20 X hp dX8_drop_26 ?_
      refine lv_iload_n hx hb dX8_drop_29 rfl (lv_at hl 1 rfl) ?_
      have hv6 := h.1
      have h := h.2
      refine al_i X hp ar_s319 hv6 dX8_drop_30 ?_
      refine lv_istore_n (lv' := [(2, .int (I1 319 x1.toNatClampNeg)), (0, .ref (E.2.1 315)), (1, .int x1)]) hx hb dX8_drop_31 rfl hl (by decide) rfl (fun ls hl => ?_)
      refine lv_aload_n hx hb dX8_drop_32 rfl (lv_at hl 1 rfl) ?_
      refine f_X8_20 X hp dX8_drop_33 ?_
      refine lv_iload_n hx hb dX8_drop_36 rfl (lv_at hl 2 rfl) ?_
      refine lv_iconst (v := (-nI 1)) hx hb dX8_drop_37 (by decide) ?_
      have hv7 := h.1
      have h := h.2
      refine as_i X hp ar_s319 hv7 dX8_drop_38 (fun H locs hp => ?_)
      obtain ⟨I8, e9⟩ : ∃ y, y = su I1 319 x1.toNatClampNeg (-nI 1) := ⟨_, rfl⟩
      have hp : PP E s H locs I8 := by rw [e9]; exact hp
      have h := h I8 e9
      refine lv_aload_n hx hb dX8_drop_39 rfl (lv_at hl 1 rfl) ?_
      refine lv_iload_n hx hb dX8_drop_40 rfl (lv_at hl 0 rfl) ?_
      refine ki (kV (As := [.int (I1 319 x1.toNatClampNeg)]) (rest := []) X hp (C_X8_well  h) tw_ml_X8_60 vf_X8_well ⟨rfl, rfl, Nat.le_of_ble_eq_true rfl, Nat.le_of_ble_eq_true rfl⟩ (pr_rcv X hp (k := 315) (by decide) (ob_315 _) (q := (RX8, TX8, 18)) rfl) rfl hl.1 rfl (Nat.le_of_ble_eq_true rfl) dX8_drop_41) hp (fun r11 I10 H locs h hp => ?_)
      exact rt_i X hp h dX8_drop_44
    · have h := h.2 c5
      refine lv_aload_n hx hb dX8_drop_19 rfl (lv_at hl 0 rfl) ?_
      refine lv_iconst (v := (nI 1)) hx hb dX8_drop_20 (by decide) ?_
      refine ki (kV (As := [.int (nI 1)]) (rest := []) X hp (C_X8_find  h) tw_ml_X8_56 vf_X8_find ⟨rfl, rfl, Nat.le_of_ble_eq_true rfl, Nat.le_of_ble_eq_true rfl⟩ (pr_rcv X hp (k := 315) (by decide) (ob_315 _) (q := (RX8, TX8, 18)) rfl) rfl hl.1 rfl (Nat.le_of_ble_eq_true rfl) dX8_drop_21) hp (fun r13 I12 H locs h hp => ?_)
      exact rt_i X hp h dX8_drop_24
  · have h := h.2 c3
    refine lv_ldc (v := (-nI 1000001)) hx hb hown (hts _ tw_k_X8_55) dX8_drop_7 ?_
    exact rt_i X hp h dX8_drop_9
set_option maxRecDepth 100000 in
theorem C_X8_drop {E : EE} {l : Launch} {x1 : Int32} {I : II} {Q : Int32 → II → Prop} (h : wp_X8_drop x1 I Q) : Met l yX8_drop (Cond.code yX8_drop cX8_drop 3 (some .int) :: lwT) rmX8_drop (va_Pc [.ref (E.2.1 315), .int x1] (PU E I)) (va_Qi Q (BU E) E.2.2.2.1) 0 0 E.2.2.2.1 :=
  ofWalk [.ref (E.2.1 315), .int x1] (by decide) tw_c_X8_drop (Nat.le_of_ble_eq_true rfl) (fun p e s m below meth c ls X hp hl => w_X8_drop_0 X _ _ _ _ _ h hp hl)
abbrev rmX8_feed : Room := { frames := 1, cells := 0, slots := 0, locals := 25 }
theorem vf_X8_feed : VF yX8_feed RX8 cX8_feed 2 (some .int) 1 := ⟨tw_in_X8, tw_im_X8_feed, tw_se_X8_feed, tw_c_X8_feed, by decide, by decide, by decide +kernel⟩
def wp_X8_feed (x1 : Int32) (I : II) (Q : Int32 → II → Prop) : Prop := (wp_X8_in x1.toInt64 (lN 0) (lN 255) I (fun r2 I1 => ((¬ r2 = 0 → ((¬ (I1 315 8) = (nI 120) → (vp_in (I1 315 8) 120 ∧ ∀ I6 : II, I6 = su I1 321 (I1 315 8).toNatClampNeg x1 → (∀ I8 : II, I8 = su I6 315 8 ((I6 315 8) + (nI 1)) → (Q (I8 315 8) I8)))) ∧ ((I1 315 8) = (nI 120) → (Q (-nI 1000003) I1)))) ∧ (r2 = 0 → (Q (-nI 1000001) I1)))))
set_option maxHeartbeats 4000000 in
set_option maxRecDepth 100000 in
theorem w_X8_feed_0 {E : EE} {p : Program} {l : Launch} {e : Env} {s : State} {m : MethodId} {args : Array Value} {below : List Frame} {meth : Method} {c : Code} {Q : Int32 → II → Prop} (X : CX E p s m args meth c cX8_feed 2 (some .int) RX8) : ∀ (x1 : Int32) (I : II) (H : Heap) (locs : List Loc) (ls : Array Slot), wp_X8_feed x1 I Q → PP E s H locs I → lv_has ls 2 [(0, .ref (E.2.1 315)), (1, .int x1)] → W p l e rmX8_feed s m args below meth c H locs 0 0 (MQ below (va_Qi Q (BU E) E.2.2.2.1) args s 0 0 E.2.2.2.1) (F0 m 0 ls []) := by
  obtain ⟨⟨hx, hb, hml, hown, hts⟩, hr, hlk, hK, hST, hN⟩ := id X
  intro x1 I H locs ls h hp hl
  unfold wp_X8_feed at h
  refine lv_iload_n hx hb dX8_feed_0 rfl (lv_at hl 1 rfl) ?_
  refine lv_i2l (v := x1.toInt64) hx hb dX8_feed_1 rfl ?_
  refine lv_lconst (v := (lN 0)) hx hb dX8_feed_2 (by decide) ?_
  refine lv_ldc2 (v := (lN 255)) hx hb hown (hts _ tw_kl_X8_71) dX8_feed_3 ?_
  refine ki (kS (As := [.long x1.toInt64, .long (lN 0), .long (lN 255)]) (rest := []) X hp (C_X8_in  h) tw_ml_X8_45 sf_X8_in ⟨rfl, rfl, Nat.le_of_ble_eq_true rfl, Nat.le_of_ble_eq_true rfl⟩ rfl hl.1 rfl (Nat.le_of_ble_eq_true rfl) dX8_feed_6) hp (fun r2 I1 H locs h hp => ?_)
  refine lv_if_ne (tgt := 15) hx hb dX8_feed_9 (by decide) (fun c3 => ?_) (fun c3 => ?_)
  · have h := h.1 c3
    refine lv_aload_n hx hb dX8_feed_15 rfl (lv_at hl 0 rfl) ?_
    refine f_X8_73 X hp dX8_feed_16 ?_
    refine lv_bipush (v := (nI 120)) hx hb dX8_feed_19 (by decide) ?_
    refine lv_icmp_ne (tgt := 27) hx hb dX8_feed_21 (by decide) (fun c4 => ?_) (fun c4 => ?_)
    · have h := h.1 c4
      refine lv_aload_n hx hb dX8_feed_27 rfl (lv_at hl 0 rfl) ?_
      refine f_X8_26 X hp dX8_feed_28 ?_
      refine lv_aload_n hx hb dX8_feed_31 rfl (lv_at hl 0 rfl) ?_
      refine f_X8_73 X hp dX8_feed_32 ?_
      refine lv_iload_n hx hb dX8_feed_35 rfl (lv_at hl 1 rfl) ?_
      have hv5 := h.1
      have h := h.2
      refine as_i X hp ar_s321 hv5 dX8_feed_36 (fun H locs hp => ?_)
      obtain ⟨I6, e7⟩ : ∃ y, y = su I1 321 (I1 315 8).toNatClampNeg x1 := ⟨_, rfl⟩
      have hp : PP E s H locs I6 := by rw [e7]; exact hp
      have h := h I6 e7
      refine lv_aload_n hx hb dX8_feed_37 rfl (lv_at hl 0 rfl) ?_
      refine lv_dup hx hb dX8_feed_38 rfl ?_
      refine f_X8_73 X hp dX8_feed_39 ?_
      refine lv_iconst (v := (nI 1)) hx hb dX8_feed_42 (by decide) ?_
      refine lv_iadd hx hb dX8_feed_43 ?_
      refine g_X8_73 X hp dX8_feed_44 (fun H locs hp => ?_)
      obtain ⟨I8, e9⟩ : ∃ y, y = su I6 315 8 ((I6 315 8) + (nI 1)) := ⟨_, rfl⟩
      have hp : PP E s H locs I8 := by rw [e9]; exact hp
      have h := h I8 e9
      refine lv_aload_n hx hb dX8_feed_47 rfl (lv_at hl 0 rfl) ?_
      refine f_X8_73 X hp dX8_feed_48 ?_
      exact rt_i X hp h dX8_feed_51
    · have h := h.2 c4
      refine lv_ldc (v := (-nI 1000003)) hx hb hown (hts _ tw_k_X8_76) dX8_feed_24 ?_
      exact rt_i X hp h dX8_feed_26
  · have h := h.2 c3
    refine lv_ldc (v := (-nI 1000001)) hx hb hown (hts _ tw_k_X8_55) dX8_feed_12 ?_
    exact rt_i X hp h dX8_feed_14
set_option maxRecDepth 100000 in
theorem C_X8_feed {E : EE} {l : Launch} {x1 : Int32} {I : II} {Q : Int32 → II → Prop} (h : wp_X8_feed x1 I Q) : Met l yX8_feed (Cond.code yX8_feed cX8_feed 2 (some .int) :: lwT) rmX8_feed (va_Pc [.ref (E.2.1 315), .int x1] (PU E I)) (va_Qi Q (BU E) E.2.2.2.1) 0 0 E.2.2.2.1 :=
  ofWalk [.ref (E.2.1 315), .int x1] (by decide) tw_c_X8_feed (Nat.le_of_ble_eq_true rfl) (fun p e s m below meth c ls X hp hl => w_X8_feed_0 X _ _ _ _ _ h hp hl)
abbrev rmX8_isLetter : Room := { frames := 0, cells := 0, slots := 0, locals := 0 }
theorem vf_X8_isLetter : VF yX8_isLetter RX8 cX8_isLetter 2 (some .boolean) 1 := ⟨tw_in_X8, tw_im_X8_isLetter, tw_se_X8_isLetter, tw_c_X8_isLetter, by decide, by decide, by decide +kernel⟩
def wp_X8_isLetter (x1 : Int32) (I : II) (Q : Int32 → II → Prop) : Prop := (((I 315 8) ≤ (I 315 13) → (Q (nI 0) I)) ∧ (¬ (I 315 8) ≤ (I 315 13) → (vp_in (I 315 13) 120 ∧ ((¬ (I 321 (I 315 13).toNatClampNeg) = x1 → (Q (nI 0) I)) ∧ ((I 321 (I 315 13).toNatClampNeg) = x1 → (Q (nI 1) I))))))
set_option maxHeartbeats 4000000 in
set_option maxRecDepth 100000 in
theorem w_X8_isLetter_0 {E : EE} {p : Program} {l : Launch} {e : Env} {s : State} {m : MethodId} {args : Array Value} {below : List Frame} {meth : Method} {c : Code} {Q : Int32 → II → Prop} (X : CX E p s m args meth c cX8_isLetter 2 (some .boolean) RX8) : ∀ (x1 : Int32) (I : II) (H : Heap) (locs : List Loc) (ls : Array Slot), wp_X8_isLetter x1 I Q → PP E s H locs I → lv_has ls 2 [(0, .ref (E.2.1 315)), (1, .int x1)] → W p l e rmX8_isLetter s m args below meth c H locs 0 0 (MQ below (va_Qi Q (BU E) E.2.2.2.1) args s 0 0 E.2.2.2.1) (F0 m 0 ls []) := by
  obtain ⟨⟨hx, hb, hml, hown, hts⟩, hr, hlk, hK, hST, hN⟩ := id X
  intro x1 I H locs ls h hp hl
  unfold wp_X8_isLetter at h
  refine lv_aload_n hx hb dX8_isLetter_0 rfl (lv_at hl 0 rfl) ?_
  refine f_X8_77 X hp dX8_isLetter_1 ?_
  refine lv_aload_n hx hb dX8_isLetter_4 rfl (lv_at hl 0 rfl) ?_
  refine f_X8_73 X hp dX8_isLetter_5 ?_
  refine lv_icmp_ge (tgt := 28) hx hb dX8_isLetter_8 (by decide) (fun c1 => ?_) (fun c1 => ?_)
  · have h := h.1 c1
    refine lv_iconst (v := (nI 0)) hx hb dX8_isLetter_28 (by decide) ?_
    exact rt_z X hp ⟨Or.inl rfl, h⟩ dX8_isLetter_29
  · have h := h.2 c1
    refine lv_aload_n hx hb dX8_isLetter_11 rfl (lv_at hl 0 rfl) ?_
    refine f_X8_26 X hp dX8_isLetter_12 ?_
    refine lv_aload_n hx hb dX8_isLetter_15 rfl (lv_at hl 0 rfl) ?_
    refine f_X8_77 X hp dX8_isLetter_16 ?_
    have hv2 := h.1
    have h := h.2
    refine al_i X hp ar_s321 hv2 dX8_isLetter_19 ?_
    refine lv_iload_n hx hb dX8_isLetter_20 rfl (lv_at hl 1 rfl) ?_
    refine lv_icmp_ne (tgt := 28) hx hb dX8_isLetter_21 (by decide) (fun c3 => ?_) (fun c3 => ?_)
    · have h := h.1 c3
      refine lv_iconst (v := (nI 0)) hx hb dX8_isLetter_28 (by decide) ?_
      exact rt_z X hp ⟨Or.inl rfl, h⟩ dX8_isLetter_29
    · have h := h.2 c3
      refine lv_iconst (v := (nI 1)) hx hb dX8_isLetter_24 (by decide) ?_
      refine lv_goto (tgt := 29) hx hb dX8_isLetter_25 (by decide) ?_
      exact rt_z X hp ⟨Or.inr rfl, h⟩ dX8_isLetter_29
set_option maxRecDepth 100000 in
theorem C_X8_isLetter {E : EE} {l : Launch} {x1 : Int32} {I : II} {Q : Int32 → II → Prop} (h : wp_X8_isLetter x1 I Q) : Met l yX8_isLetter (Cond.code yX8_isLetter cX8_isLetter 2 (some .boolean) :: lwT) rmX8_isLetter (va_Pc [.ref (E.2.1 315), .int x1] (PU E I)) (va_Qi Q (BU E) E.2.2.2.1) 0 0 E.2.2.2.1 :=
  ofWalk [.ref (E.2.1 315), .int x1] (by decide) tw_c_X8_isLetter (Nat.le_of_ble_eq_true rfl) (fun p e s m below meth c ls X hp hl => w_X8_isLetter_0 X _ _ _ _ _ h hp hl)
abbrev rmX8_isFigure : Room := { frames := 1, cells := 0, slots := 0, locals := 25 }
theorem vf_X8_isFigure : VF yX8_isFigure RX8 cX8_isFigure 2 (some .boolean) 1 := ⟨tw_in_X8, tw_im_X8_isFigure, tw_se_X8_isFigure, tw_c_X8_isFigure, by decide, by decide, by decide +kernel⟩
def wp_X8_isFigure (x1 : Int32) (I : II) (Q : Int32 → II → Prop) : Prop := (((I 315 8) ≤ x1 → (Q (nI 0) I)) ∧ (¬ (I 315 8) ≤ x1 → (vp_in x1 120 ∧ (wp_X8_in (I 321 x1.toNatClampNeg).toInt64 (lN 48) (lN 57) I (fun r4 I3 => ((r4 = 0 → (Q (nI 0) I3)) ∧ (¬ r4 = 0 → (Q (nI 1) I3))))))))
set_option maxHeartbeats 4000000 in
set_option maxRecDepth 100000 in
theorem w_X8_isFigure_0 {E : EE} {p : Program} {l : Launch} {e : Env} {s : State} {m : MethodId} {args : Array Value} {below : List Frame} {meth : Method} {c : Code} {Q : Int32 → II → Prop} (X : CX E p s m args meth c cX8_isFigure 2 (some .boolean) RX8) : ∀ (x1 : Int32) (I : II) (H : Heap) (locs : List Loc) (ls : Array Slot), wp_X8_isFigure x1 I Q → PP E s H locs I → lv_has ls 2 [(0, .ref (E.2.1 315)), (1, .int x1)] → W p l e rmX8_isFigure s m args below meth c H locs 0 0 (MQ below (va_Qi Q (BU E) E.2.2.2.1) args s 0 0 E.2.2.2.1) (F0 m 0 ls []) := by
  obtain ⟨⟨hx, hb, hml, hown, hts⟩, hr, hlk, hK, hST, hN⟩ := id X
  intro x1 I H locs ls h hp hl
  unfold wp_X8_isFigure at h
  refine lv_iload_n hx hb dX8_isFigure_0 rfl (lv_at hl 1 rfl) ?_
  refine lv_aload_n hx hb dX8_isFigure_1 rfl (lv_at hl 0 rfl) ?_
  refine f_X8_73 X hp dX8_isFigure_2 ?_
  refine lv_icmp_ge (tgt := 31) hx hb dX8_isFigure_5 (by decide) (fun c1 => ?_) (fun c1 => ?_)
  · have h := h.1 c1
    refine lv_iconst (v := (nI 0)) hx hb dX8_isFigure_31 (by decide) ?_
    exact rt_z X hp ⟨Or.inl rfl, h⟩ dX8_isFigure_32
  · have h := h.2 c1
    refine lv_aload_n hx hb dX8_isFigure_8 rfl (lv_at hl 0 rfl) ?_
    refine f_X8_26 X hp dX8_isFigure_9 ?_
    refine lv_iload_n hx hb dX8_isFigure_12 rfl (lv_at hl 1 rfl) ?_
    have hv2 := h.1
    have h := h.2
    refine al_i X hp ar_s321 hv2 dX8_isFigure_13 ?_
    refine lv_i2l (v := (I 321 x1.toNatClampNeg).toInt64) hx hb dX8_isFigure_14 rfl ?_
    refine lv_ldc2 (v := (lN 48)) hx hb hown (hts _ tw_kl_X8_80) dX8_isFigure_15 ?_
    refine lv_ldc2 (v := (lN 57)) hx hb hown (hts _ tw_kl_X8_82) dX8_isFigure_18 ?_
    refine ki (kS (As := [.long (I 321 x1.toNatClampNeg).toInt64, .long (lN 48), .long (lN 57)]) (rest := []) X hp (C_X8_in  h) tw_ml_X8_45 sf_X8_in ⟨rfl, rfl, Nat.le_of_ble_eq_true rfl, Nat.le_of_ble_eq_true rfl⟩ rfl hl.1 rfl (Nat.le_of_ble_eq_true rfl) dX8_isFigure_21) hp (fun r4 I3 H locs h hp => ?_)
    refine lv_if_eq (tgt := 31) hx hb dX8_isFigure_24 (by decide) (fun c5 => ?_) (fun c5 => ?_)
    · have h := h.1 c5
      refine lv_iconst (v := (nI 0)) hx hb dX8_isFigure_31 (by decide) ?_
      exact rt_z X hp ⟨Or.inl rfl, h⟩ dX8_isFigure_32
    · have h := h.2 c5
      refine lv_iconst (v := (nI 1)) hx hb dX8_isFigure_27 (by decide) ?_
      refine lv_goto (tgt := 32) hx hb dX8_isFigure_28 (by decide) ?_
      exact rt_z X hp ⟨Or.inr rfl, h⟩ dX8_isFigure_32
set_option maxRecDepth 100000 in
theorem C_X8_isFigure {E : EE} {l : Launch} {x1 : Int32} {I : II} {Q : Int32 → II → Prop} (h : wp_X8_isFigure x1 I Q) : Met l yX8_isFigure (Cond.code yX8_isFigure cX8_isFigure 2 (some .boolean) :: lwT) rmX8_isFigure (va_Pc [.ref (E.2.1 315), .int x1] (PU E I)) (va_Qi Q (BU E) E.2.2.2.1) 0 0 E.2.2.2.1 :=
  ofWalk [.ref (E.2.1 315), .int x1] (by decide) tw_c_X8_isFigure (Nat.le_of_ble_eq_true rfl) (fun p e s m below meth c ls X hp hl => w_X8_isFigure_0 X _ _ _ _ _ h hp hl)
abbrev rmX8_refuse : Room := { frames := 0, cells := 0, slots := 0, locals := 0 }
theorem vf_X8_refuse : VF yX8_refuse RX8 cX8_refuse 2 (some .boolean) 1 := ⟨tw_in_X8, tw_im_X8_refuse, tw_se_X8_refuse, tw_c_X8_refuse, by decide, by decide, by decide +kernel⟩
def wp_X8_refuse (x1 : Int32) (I : II) (Q : Int32 → II → Prop) : Prop := (∀ I1 : II, I1 = su I 315 14 x1 → (Q (nI 0) I1))
set_option maxHeartbeats 4000000 in
set_option maxRecDepth 100000 in
theorem w_X8_refuse_0 {E : EE} {p : Program} {l : Launch} {e : Env} {s : State} {m : MethodId} {args : Array Value} {below : List Frame} {meth : Method} {c : Code} {Q : Int32 → II → Prop} (X : CX E p s m args meth c cX8_refuse 2 (some .boolean) RX8) : ∀ (x1 : Int32) (I : II) (H : Heap) (locs : List Loc) (ls : Array Slot), wp_X8_refuse x1 I Q → PP E s H locs I → lv_has ls 2 [(0, .ref (E.2.1 315)), (1, .int x1)] → W p l e rmX8_refuse s m args below meth c H locs 0 0 (MQ below (va_Qi Q (BU E) E.2.2.2.1) args s 0 0 E.2.2.2.1) (F0 m 0 ls []) := by
  obtain ⟨⟨hx, hb, hml, hown, hts⟩, hr, hlk, hK, hST, hN⟩ := id X
  intro x1 I H locs ls h hp hl
  unfold wp_X8_refuse at h
  refine lv_aload_n hx hb dX8_refuse_0 rfl (lv_at hl 0 rfl) ?_
  refine lv_iload_n hx hb dX8_refuse_1 rfl (lv_at hl 1 rfl) ?_
  refine g_X8_84 X hp dX8_refuse_2 (fun H locs hp => ?_)
  obtain ⟨I1, e2⟩ : ∃ y, y = su I 315 14 x1 := ⟨_, rfl⟩
  have hp : PP E s H locs I1 := by rw [e2]; exact hp
  have h := h I1 e2
  refine lv_iconst (v := (nI 0)) hx hb dX8_refuse_5 (by decide) ?_
  exact rt_z X hp ⟨Or.inl rfl, h⟩ dX8_refuse_6
set_option maxRecDepth 100000 in
theorem C_X8_refuse {E : EE} {l : Launch} {x1 : Int32} {I : II} {Q : Int32 → II → Prop} (h : wp_X8_refuse x1 I Q) : Met l yX8_refuse (Cond.code yX8_refuse cX8_refuse 2 (some .boolean) :: lwT) rmX8_refuse (va_Pc [.ref (E.2.1 315), .int x1] (PU E I)) (va_Qi Q (BU E) E.2.2.2.1) 0 0 E.2.2.2.1 :=
  ofWalk [.ref (E.2.1 315), .int x1] (by decide) tw_c_X8_refuse (Nat.le_of_ble_eq_true rfl) (fun p e s m below meth c ls X hp hl => w_X8_refuse_0 X _ _ _ _ _ h hp hl)
abbrev rmX8_sign : Room := { frames := 1, cells := 0, slots := 0, locals := 21 }
theorem vf_X8_sign : VF yX8_sign RX8 cX8_sign 2 (some .boolean) 1 := ⟨tw_in_X8, tw_im_X8_sign, tw_se_X8_sign, tw_c_X8_sign, by decide, by decide, by decide +kernel⟩
def wp_X8_sign (x1 : Int32) (I : II) (Q : Int32 → II → Prop) : Prop := (wp_X8_isLetter x1 I (fun r2 I1 => ((¬ r2 = 0 → (∀ I4 : II, I4 = su I1 315 13 ((I1 315 13) + (nI 1)) → (Q (nI 1) I4))) ∧ (r2 = 0 → (wp_X8_refuse (nI 1) I1 (fun r7 I6 => (isb r7 ∧ Q r7 I6)))))))
set_option maxHeartbeats 4000000 in
set_option maxRecDepth 100000 in
theorem w_X8_sign_0 {E : EE} {p : Program} {l : Launch} {e : Env} {s : State} {m : MethodId} {args : Array Value} {below : List Frame} {meth : Method} {c : Code} {Q : Int32 → II → Prop} (X : CX E p s m args meth c cX8_sign 2 (some .boolean) RX8) : ∀ (x1 : Int32) (I : II) (H : Heap) (locs : List Loc) (ls : Array Slot), wp_X8_sign x1 I Q → PP E s H locs I → lv_has ls 2 [(0, .ref (E.2.1 315)), (1, .int x1)] → W p l e rmX8_sign s m args below meth c H locs 0 0 (MQ below (va_Qi Q (BU E) E.2.2.2.1) args s 0 0 E.2.2.2.1) (F0 m 0 ls []) := by
  obtain ⟨⟨hx, hb, hml, hown, hts⟩, hr, hlk, hK, hST, hN⟩ := id X
  intro x1 I H locs ls h hp hl
  unfold wp_X8_sign at h
  refine lv_aload_n hx hb dX8_sign_0 rfl (lv_at hl 0 rfl) ?_
  refine lv_iload_n hx hb dX8_sign_1 rfl (lv_at hl 1 rfl) ?_
  refine ki (kV (As := [.int x1]) (rest := []) X hp (C_X8_isLetter  h) tw_ml_X8_87 vf_X8_isLetter ⟨rfl, rfl, Nat.le_of_ble_eq_true rfl, Nat.le_of_ble_eq_true rfl⟩ (pr_rcv X hp (k := 315) (by decide) (ob_315 _) (q := (RX8, TX8, 18)) rfl) rfl hl.1 rfl (Nat.le_of_ble_eq_true rfl) dX8_sign_2) hp (fun r2 I1 H locs h hp => ?_)
  refine lv_if_ne (tgt := 14) hx hb dX8_sign_5 (by decide) (fun c3 => ?_) (fun c3 => ?_)
  · have h := h.1 c3
    refine lv_aload_n hx hb dX8_sign_14 rfl (lv_at hl 0 rfl) ?_
    refine lv_dup hx hb dX8_sign_15 rfl ?_
    refine f_X8_77 X hp dX8_sign_16 ?_
    refine lv_iconst (v := (nI 1)) hx hb dX8_sign_19 (by decide) ?_
    refine lv_iadd hx hb dX8_sign_20 ?_
    refine g_X8_77 X hp dX8_sign_21 (fun H locs hp => ?_)
    obtain ⟨I4, e5⟩ : ∃ y, y = su I1 315 13 ((I1 315 13) + (nI 1)) := ⟨_, rfl⟩
    have hp : PP E s H locs I4 := by rw [e5]; exact hp
    have h := h I4 e5
    refine lv_iconst (v := (nI 1)) hx hb dX8_sign_24 (by decide) ?_
    exact rt_z X hp ⟨Or.inr rfl, h⟩ dX8_sign_25
  · have h := h.2 c3
    refine lv_aload_n hx hb dX8_sign_8 rfl (lv_at hl 0 rfl) ?_
    refine lv_iconst (v := (nI 1)) hx hb dX8_sign_9 (by decide) ?_
    refine ki (kV (As := [.int (nI 1)]) (rest := []) X hp (C_X8_refuse  h) tw_ml_X8_90 vf_X8_refuse ⟨rfl, rfl, Nat.le_of_ble_eq_true rfl, Nat.le_of_ble_eq_true rfl⟩ (pr_rcv X hp (k := 315) (by decide) (ob_315 _) (q := (RX8, TX8, 18)) rfl) rfl hl.1 rfl (Nat.le_of_ble_eq_true rfl) dX8_sign_10) hp (fun r7 I6 H locs h hp => ?_)
    exact rt_z X hp h dX8_sign_13
set_option maxRecDepth 100000 in
theorem C_X8_sign {E : EE} {l : Launch} {x1 : Int32} {I : II} {Q : Int32 → II → Prop} (h : wp_X8_sign x1 I Q) : Met l yX8_sign (Cond.code yX8_sign cX8_sign 2 (some .boolean) :: lwT) rmX8_sign (va_Pc [.ref (E.2.1 315), .int x1] (PU E I)) (va_Qi Q (BU E) E.2.2.2.1) 0 0 E.2.2.2.1 :=
  ofWalk [.ref (E.2.1 315), .int x1] (by decide) tw_c_X8_sign (Nat.le_of_ble_eq_true rfl) (fun p e s m below meth c ls X hp hl => w_X8_sign_0 X _ _ _ _ _ h hp hl)
abbrev rmX8_readsNumber : Room := { frames := 2, cells := 0, slots := 0, locals := 46 }
theorem vf_X8_readsNumber : VF yX8_readsNumber RX8 cX8_readsNumber 4 (some .boolean) 2 := ⟨tw_in_X8, tw_im_X8_readsNumber, tw_se_X8_readsNumber, tw_c_X8_readsNumber, by decide, by decide, by decide +kernel⟩
def wp_X8_readsNumber_37 (Q : Int32 → II → Prop) (I : II) : Prop := (wp_X8_refuse (nI 1) I (fun r2 I1 => (isb r2 ∧ Q r2 I1)))
set_option maxHeartbeats 4000000 in
set_option maxRecDepth 100000 in
theorem w_X8_readsNumber_37 {E : EE} {p : Program} {l : Launch} {e : Env} {s : State} {m : MethodId} {args : Array Value} {below : List Frame} {meth : Method} {c : Code} {Q : Int32 → II → Prop} (X : CX E p s m args meth c cX8_readsNumber 4 (some .boolean) RX8) : ∀ (I : II) (H : Heap) (locs : List Loc) (ls : Array Slot), wp_X8_readsNumber_37 Q I → PP E s H locs I → lv_has ls 4 [(0, .ref (E.2.1 315))] → W p l e rmX8_readsNumber s m args below meth c H locs 0 0 (MQ below (va_Qi Q (BU E) E.2.2.2.1) args s 0 0 E.2.2.2.1) (F0 m 37 ls []) := by
  obtain ⟨⟨hx, hb, hml, hown, hts⟩, hr, hlk, hK, hST, hN⟩ := id X
  intro I H locs ls h hp hl
  unfold wp_X8_readsNumber_37 at h
  refine lv_aload_n hx hb dX8_readsNumber_37 rfl (lv_at hl 0 rfl) ?_
  refine lv_iconst (v := (nI 1)) hx hb dX8_readsNumber_38 (by decide) ?_
  refine ki (kV (As := [.int (nI 1)]) (rest := []) X hp (C_X8_refuse  h) tw_ml_X8_90 vf_X8_refuse ⟨rfl, rfl, Nat.le_of_ble_eq_true rfl, Nat.le_of_ble_eq_true rfl⟩ (pr_rcv X hp (k := 315) (by decide) (ob_315 _) (q := (RX8, TX8, 18)) rfl) rfl hl.1 rfl (Nat.le_of_ble_eq_true rfl) dX8_readsNumber_39) hp (fun r2 I1 H locs h hp => ?_)
  exact rt_z X hp h dX8_readsNumber_42
def wp_X8_readsNumber_113 (Q : Int32 → II → Prop) (x1 : Int32) (x2 : Int32) (x3 : Int32) (v0 : Int32) (I : II) : Prop := (∀ I1 : II, I1 = su I 315 15 v0 → (wp_X8_in (I1 315 15).toInt64 x1.toInt64 x2.toInt64 I1 (fun r4 I3 => ((¬ r4 = 0 → (∀ I6 : II, I6 = su I3 315 13 ((I3 315 13) + x3) → (Q (nI 1) I6))) ∧ (r4 = 0 → (wp_X8_refuse (nI 2) I3 (fun r9 I8 => (isb r9 ∧ Q r9 I8))))))))
set_option maxHeartbeats 4000000 in
set_option maxRecDepth 100000 in
theorem w_X8_readsNumber_113 {E : EE} {p : Program} {l : Launch} {e : Env} {s : State} {m : MethodId} {args : Array Value} {below : List Frame} {meth : Method} {c : Code} {Q : Int32 → II → Prop} (X : CX E p s m args meth c cX8_readsNumber 4 (some .boolean) RX8) : ∀ (x1 : Int32) (x2 : Int32) (x3 : Int32) (v0 : Int32) (I : II) (H : Heap) (locs : List Loc) (ls : Array Slot), wp_X8_readsNumber_113 Q x1 x2 x3 v0 I → PP E s H locs I → lv_has ls 4 [(0, .ref (E.2.1 315)), (1, .int x1), (2, .int x2), (3, .int x3)] → W p l e rmX8_readsNumber s m args below meth c H locs 0 0 (MQ below (va_Qi Q (BU E) E.2.2.2.1) args s 0 0 E.2.2.2.1) (F0 m 113 ls [.int v0, .ref (E.2.1 315)]) := by
  obtain ⟨⟨hx, hb, hml, hown, hts⟩, hr, hlk, hK, hST, hN⟩ := id X
  intro x1 x2 x3 v0 I H locs ls h hp hl
  unfold wp_X8_readsNumber_113 at h
  refine g_X8_96 X hp dX8_readsNumber_113 (fun H locs hp => ?_)
  obtain ⟨I1, e2⟩ : ∃ y, y = su I 315 15 v0 := ⟨_, rfl⟩
  have hp : PP E s H locs I1 := by rw [e2]; exact hp
  have h := h I1 e2
  refine lv_aload_n hx hb dX8_readsNumber_116 rfl (lv_at hl 0 rfl) ?_
  refine f_X8_96 X hp dX8_readsNumber_117 ?_
  refine lv_i2l (v := (I1 315 15).toInt64) hx hb dX8_readsNumber_120 rfl ?_
  refine lv_iload_n hx hb dX8_readsNumber_121 rfl (lv_at hl 1 rfl) ?_
  refine lv_i2l (v := x1.toInt64) hx hb dX8_readsNumber_122 rfl ?_
  refine lv_iload_n hx hb dX8_readsNumber_123 rfl (lv_at hl 2 rfl) ?_
  refine lv_i2l (v := x2.toInt64) hx hb dX8_readsNumber_124 rfl ?_
  refine ki (kS (As := [.long (I1 315 15).toInt64, .long x1.toInt64, .long x2.toInt64]) (rest := []) X hp (C_X8_in  h) tw_ml_X8_45 sf_X8_in ⟨rfl, rfl, Nat.le_of_ble_eq_true rfl, Nat.le_of_ble_eq_true rfl⟩ rfl hl.1 rfl (Nat.le_of_ble_eq_true rfl) dX8_readsNumber_125) hp (fun r4 I3 H locs h hp => ?_)
  refine lv_if_ne (tgt := 137) hx hb dX8_readsNumber_128 (by decide) (fun c5 => ?_) (fun c5 => ?_)
  · have h := h.1 c5
    refine lv_aload_n hx hb dX8_readsNumber_137 rfl (lv_at hl 0 rfl) ?_
    refine lv_dup hx hb dX8_readsNumber_138 rfl ?_
    refine f_X8_77 X hp dX8_readsNumber_139 ?_
    refine lv_iload_n hx hb dX8_readsNumber_142 rfl (lv_at hl 3 rfl) ?_
    refine lv_iadd hx hb dX8_readsNumber_143 ?_
    refine g_X8_77 X hp dX8_readsNumber_144 (fun H locs hp => ?_)
    obtain ⟨I6, e7⟩ : ∃ y, y = su I3 315 13 ((I3 315 13) + x3) := ⟨_, rfl⟩
    have hp : PP E s H locs I6 := by rw [e7]; exact hp
    have h := h I6 e7
    refine lv_iconst (v := (nI 1)) hx hb dX8_readsNumber_147 (by decide) ?_
    exact rt_z X hp ⟨Or.inr rfl, h⟩ dX8_readsNumber_148
  · have h := h.2 c5
    refine lv_aload_n hx hb dX8_readsNumber_131 rfl (lv_at hl 0 rfl) ?_
    refine lv_iconst (v := (nI 2)) hx hb dX8_readsNumber_132 (by decide) ?_
    refine ki (kV (As := [.int (nI 2)]) (rest := []) X hp (C_X8_refuse  h) tw_ml_X8_90 vf_X8_refuse ⟨rfl, rfl, Nat.le_of_ble_eq_true rfl, Nat.le_of_ble_eq_true rfl⟩ (pr_rcv X hp (k := 315) (by decide) (ob_315 _) (q := (RX8, TX8, 18)) rfl) rfl hl.1 rfl (Nat.le_of_ble_eq_true rfl) dX8_readsNumber_133) hp (fun r9 I8 H locs h hp => ?_)
    exact rt_z X hp h dX8_readsNumber_136
def wp_X8_readsNumber_77 (Q : Int32 → II → Prop) (x1 : Int32) (x2 : Int32) (v0 : Int32) (I : II) : Prop := ((¬ v0 = (nI 2) → (wp_X8_readsNumber_113 Q x1 x2 v0 (I 315 15) I)) ∧ (v0 = (nI 2) → (vp_in ((I 315 13) + (nI 1)) 120 ∧ (wp_X8_readsNumber_113 Q x1 x2 v0 ((((nI 10) * (I 315 15)) + (I 321 ((I 315 13) + (nI 1)).toNatClampNeg)) - (nI 48)) I))))
set_option maxHeartbeats 4000000 in
set_option maxRecDepth 100000 in
theorem w_X8_readsNumber_77 {E : EE} {p : Program} {l : Launch} {e : Env} {s : State} {m : MethodId} {args : Array Value} {below : List Frame} {meth : Method} {c : Code} {Q : Int32 → II → Prop} (X : CX E p s m args meth c cX8_readsNumber 4 (some .boolean) RX8) : ∀ (x1 : Int32) (x2 : Int32) (v0 : Int32) (I : II) (H : Heap) (locs : List Loc) (ls : Array Slot), wp_X8_readsNumber_77 Q x1 x2 v0 I → PP E s H locs I → lv_has ls 4 [(0, .ref (E.2.1 315)), (1, .int x1), (2, .int x2)] → W p l e rmX8_readsNumber s m args below meth c H locs 0 0 (MQ below (va_Qi Q (BU E) E.2.2.2.1) args s 0 0 E.2.2.2.1) (F0 m 77 ls [.int v0]) := by
  obtain ⟨⟨hx, hb, hml, hown, hts⟩, hr, hlk, hK, hST, hN⟩ := id X
  intro x1 x2 v0 I H locs ls h hp hl
  unfold wp_X8_readsNumber_77 at h
  refine lv_istore_n (lv' := [(3, .int v0), (0, .ref (E.2.1 315)), (1, .int x1), (2, .int x2)]) hx hb dX8_readsNumber_77 rfl hl (by decide) rfl (fun ls hl => ?_)
  refine lv_aload_n hx hb dX8_readsNumber_78 rfl (lv_at hl 1 rfl) ?_
  refine lv_iload_n hx hb dX8_readsNumber_79 rfl (lv_at hl 0 rfl) ?_
  refine lv_iconst (v := (nI 2)) hx hb dX8_readsNumber_80 (by decide) ?_
  refine lv_icmp_ne (tgt := 109) hx hb dX8_readsNumber_81 (by decide) (fun c1 => ?_) (fun c1 => ?_)
  · have h := h.1 c1
    refine lv_aload_n hx hb dX8_readsNumber_109 rfl (lv_at hl 1 rfl) ?_
    refine f_X8_96 X hp dX8_readsNumber_110 ?_
    exact w_X8_readsNumber_113 X  _ _ _ _ _ _ _ _ h hp (lv_sub hl [1, 2, 3, 0] rfl)
  · have h := h.2 c1
    refine lv_bipush (v := (nI 10)) hx hb dX8_readsNumber_84 (by decide) ?_
    refine lv_aload_n hx hb dX8_readsNumber_86 rfl (lv_at hl 1 rfl) ?_
    refine f_X8_96 X hp dX8_readsNumber_87 ?_
    refine lv_imul hx hb dX8_readsNumber_90 ?_
    refine lv_aload_n hx hb dX8_readsNumber_91 rfl (lv_at hl 1 rfl) ?_
    refine f_X8_26 X hp dX8_readsNumber_92 ?_
    refine lv_aload_n hx hb dX8_readsNumber_95 rfl (lv_at hl 1 rfl) ?_
    refine f_X8_77 X hp dX8_readsNumber_96 ?_
    refine lv_iconst (v := (nI 1)) hx hb dX8_readsNumber_99 (by decide) ?_
    refine lv_iadd hx hb dX8_readsNumber_100 ?_
    have hv2 := h.1
    have h := h.2
    refine al_i X hp ar_s321 hv2 dX8_readsNumber_101 ?_
    refine lv_iadd hx hb dX8_readsNumber_102 ?_
    refine lv_bipush (v := (nI 48)) hx hb dX8_readsNumber_103 (by decide) ?_
    refine lv_isub hx hb dX8_readsNumber_105 ?_
    refine lv_goto (tgt := 113) hx hb dX8_readsNumber_106 (by decide) ?_
    exact w_X8_readsNumber_113 X  _ _ _ _ _ _ _ _ h hp (lv_sub hl [1, 2, 3, 0] rfl)
def wp_X8_readsNumber_43 (Q : Int32 → II → Prop) (x1 : Int32) (x2 : Int32) (I : II) : Prop := (vp_in (I 315 13) 120 ∧ (∀ I2 : II, I2 = su I 315 15 ((I 321 (I 315 13).toNatClampNeg) - (nI 48)) → (wp_X8_isFigure ((I2 315 13) + (nI 1)) I2 (fun r5 I4 => ((r5 = 0 → (wp_X8_readsNumber_77 Q x1 x2 (nI 1) I4)) ∧ (¬ r5 = 0 → (wp_X8_readsNumber_77 Q x1 x2 (nI 2) I4)))))))
set_option maxHeartbeats 4000000 in
set_option maxRecDepth 100000 in
theorem w_X8_readsNumber_43 {E : EE} {p : Program} {l : Launch} {e : Env} {s : State} {m : MethodId} {args : Array Value} {below : List Frame} {meth : Method} {c : Code} {Q : Int32 → II → Prop} (X : CX E p s m args meth c cX8_readsNumber 4 (some .boolean) RX8) : ∀ (x1 : Int32) (x2 : Int32) (I : II) (H : Heap) (locs : List Loc) (ls : Array Slot), wp_X8_readsNumber_43 Q x1 x2 I → PP E s H locs I → lv_has ls 4 [(0, .ref (E.2.1 315)), (1, .int x1), (2, .int x2)] → W p l e rmX8_readsNumber s m args below meth c H locs 0 0 (MQ below (va_Qi Q (BU E) E.2.2.2.1) args s 0 0 E.2.2.2.1) (F0 m 43 ls []) := by
  obtain ⟨⟨hx, hb, hml, hown, hts⟩, hr, hlk, hK, hST, hN⟩ := id X
  intro x1 x2 I H locs ls h hp hl
  unfold wp_X8_readsNumber_43 at h
  refine lv_aload_n hx hb dX8_readsNumber_43 rfl (lv_at hl 0 rfl) ?_
  refine lv_aload_n hx hb dX8_readsNumber_44 rfl (lv_at hl 0 rfl) ?_
  refine f_X8_26 X hp dX8_readsNumber_45 ?_
  refine lv_aload_n hx hb dX8_readsNumber_48 rfl (lv_at hl 0 rfl) ?_
  refine f_X8_77 X hp dX8_readsNumber_49 ?_
  have hv1 := h.1
  have h := h.2
  refine al_i X hp ar_s321 hv1 dX8_readsNumber_52 ?_
  refine lv_bipush (v := (nI 48)) hx hb dX8_readsNumber_53 (by decide) ?_
  refine lv_isub hx hb dX8_readsNumber_55 ?_
  refine g_X8_96 X hp dX8_readsNumber_56 (fun H locs hp => ?_)
  obtain ⟨I2, e3⟩ : ∃ y, y = su I 315 15 ((I 321 (I 315 13).toNatClampNeg) - (nI 48)) := ⟨_, rfl⟩
  have hp : PP E s H locs I2 := by rw [e3]; exact hp
  have h := h I2 e3
  refine lv_aload_n hx hb dX8_readsNumber_59 rfl (lv_at hl 0 rfl) ?_
  refine lv_aload_n hx hb dX8_readsNumber_60 rfl (lv_at hl 0 rfl) ?_
  refine f_X8_77 X hp dX8_readsNumber_61 ?_
  refine lv_iconst (v := (nI 1)) hx hb dX8_readsNumber_64 (by decide) ?_
  refine lv_iadd hx hb dX8_readsNumber_65 ?_
  refine ki (kV (As := [.int ((I2 315 13) + (nI 1))]) (rest := []) X hp (C_X8_isFigure  h) tw_ml_X8_93 vf_X8_isFigure ⟨rfl, rfl, Nat.le_of_ble_eq_true rfl, Nat.le_of_ble_eq_true rfl⟩ (pr_rcv X hp (k := 315) (by decide) (ob_315 _) (q := (RX8, TX8, 18)) rfl) rfl hl.1 rfl (Nat.le_of_ble_eq_true rfl) dX8_readsNumber_66) hp (fun r5 I4 H locs h hp => ?_)
  refine lv_if_eq (tgt := 76) hx hb dX8_readsNumber_69 (by decide) (fun c6 => ?_) (fun c6 => ?_)
  · have h := h.1 c6
    refine lv_iconst (v := (nI 1)) hx hb dX8_readsNumber_76 (by decide) ?_
    exact w_X8_readsNumber_77 X  _ _ _ _ _ _ _ h hp (lv_sub hl [0, 1, 2] rfl)
  · have h := h.2 c6
    refine lv_iconst (v := (nI 2)) hx hb dX8_readsNumber_72 (by decide) ?_
    refine lv_goto (tgt := 77) hx hb dX8_readsNumber_73 (by decide) ?_
    exact w_X8_readsNumber_77 X  _ _ _ _ _ _ _ h hp (lv_sub hl [0, 1, 2] rfl)
def wp_X8_readsNumber (x1 : Int32) (x2 : Int32) (I : II) (Q : Int32 → II → Prop) : Prop := (wp_X8_isFigure (I 315 13) I (fun r2 I1 => ((r2 = 0 → (wp_X8_readsNumber_37 Q I1)) ∧ (¬ r2 = 0 → (wp_X8_isFigure ((I1 315 13) + (nI 1)) I1 (fun r5 I4 => ((r5 = 0 → (wp_X8_readsNumber_43 Q x1 x2 I4)) ∧ (¬ r5 = 0 → (wp_X8_isFigure ((I4 315 13) + (nI 2)) I4 (fun r8 I7 => ((r8 = 0 → (wp_X8_readsNumber_43 Q x1 x2 I7)) ∧ (¬ r8 = 0 → (wp_X8_readsNumber_37 Q I7)))))))))))))
set_option maxHeartbeats 4000000 in
set_option maxRecDepth 100000 in
theorem w_X8_readsNumber_0 {E : EE} {p : Program} {l : Launch} {e : Env} {s : State} {m : MethodId} {args : Array Value} {below : List Frame} {meth : Method} {c : Code} {Q : Int32 → II → Prop} (X : CX E p s m args meth c cX8_readsNumber 4 (some .boolean) RX8) : ∀ (x1 : Int32) (x2 : Int32) (I : II) (H : Heap) (locs : List Loc) (ls : Array Slot), wp_X8_readsNumber x1 x2 I Q → PP E s H locs I → lv_has ls 4 [(0, .ref (E.2.1 315)), (1, .int x1), (2, .int x2)] → W p l e rmX8_readsNumber s m args below meth c H locs 0 0 (MQ below (va_Qi Q (BU E) E.2.2.2.1) args s 0 0 E.2.2.2.1) (F0 m 0 ls []) := by
  obtain ⟨⟨hx, hb, hml, hown, hts⟩, hr, hlk, hK, hST, hN⟩ := id X
  intro x1 x2 I H locs ls h hp hl
  unfold wp_X8_readsNumber at h
  refine lv_aload_n hx hb dX8_readsNumber_0 rfl (lv_at hl 0 rfl) ?_
  refine lv_aload_n hx hb dX8_readsNumber_1 rfl (lv_at hl 0 rfl) ?_
  refine f_X8_77 X hp dX8_readsNumber_2 ?_
  refine ki (kV (As := [.int (I 315 13)]) (rest := []) X hp (C_X8_isFigure  h) tw_ml_X8_93 vf_X8_isFigure ⟨rfl, rfl, Nat.le_of_ble_eq_true rfl, Nat.le_of_ble_eq_true rfl⟩ (pr_rcv X hp (k := 315) (by decide) (ob_315 _) (q := (RX8, TX8, 18)) rfl) rfl hl.1 rfl (Nat.le_of_ble_eq_true rfl) dX8_readsNumber_5) hp (fun r2 I1 H locs h hp => ?_)
  refine lv_if_eq (tgt := 37) hx hb dX8_readsNumber_8 (by decide) (fun c3 => ?_) (fun c3 => ?_)
  · have h := h.1 c3
    exact w_X8_readsNumber_37 X  _ _ _ _ h hp (lv_sub hl [0] rfl)
  · have h := h.2 c3
    refine lv_aload_n hx hb dX8_readsNumber_11 rfl (lv_at hl 0 rfl) ?_
    refine lv_aload_n hx hb dX8_readsNumber_12 rfl (lv_at hl 0 rfl) ?_
    refine f_X8_77 X hp dX8_readsNumber_13 ?_
    refine lv_iconst (v := (nI 1)) hx hb dX8_readsNumber_16 (by decide) ?_
    refine lv_iadd hx hb dX8_readsNumber_17 ?_
    refine ki (kV (As := [.int ((I1 315 13) + (nI 1))]) (rest := []) X hp (C_X8_isFigure  h) tw_ml_X8_93 vf_X8_isFigure ⟨rfl, rfl, Nat.le_of_ble_eq_true rfl, Nat.le_of_ble_eq_true rfl⟩ (pr_rcv X hp (k := 315) (by decide) (ob_315 _) (q := (RX8, TX8, 18)) rfl) rfl hl.1 rfl (Nat.le_of_ble_eq_true rfl) dX8_readsNumber_18) hp (fun r5 I4 H locs h hp => ?_)
    refine lv_if_eq (tgt := 43) hx hb dX8_readsNumber_21 (by decide) (fun c6 => ?_) (fun c6 => ?_)
    · have h := h.1 c6
      exact w_X8_readsNumber_43 X  _ _ _ _ _ _ h hp (lv_sub hl [0, 1, 2] rfl)
    · have h := h.2 c6
      refine lv_aload_n hx hb dX8_readsNumber_24 rfl (lv_at hl 0 rfl) ?_
      refine lv_aload_n hx hb dX8_readsNumber_25 rfl (lv_at hl 0 rfl) ?_
      refine f_X8_77 X hp dX8_readsNumber_26 ?_
      refine lv_iconst (v := (nI 2)) hx hb dX8_readsNumber_29 (by decide) ?_
      refine lv_iadd hx hb dX8_readsNumber_30 ?_
      refine ki (kV (As := [.int ((I4 315 13) + (nI 2))]) (rest := []) X hp (C_X8_isFigure  h) tw_ml_X8_93 vf_X8_isFigure ⟨rfl, rfl, Nat.le_of_ble_eq_true rfl, Nat.le_of_ble_eq_true rfl⟩ (pr_rcv X hp (k := 315) (by decide) (ob_315 _) (q := (RX8, TX8, 18)) rfl) rfl hl.1 rfl (Nat.le_of_ble_eq_true rfl) dX8_readsNumber_31) hp (fun r8 I7 H locs h hp => ?_)
      refine lv_if_eq (tgt := 43) hx hb dX8_readsNumber_34 (by decide) (fun c9 => ?_) (fun c9 => ?_)
      · have h := h.1 c9
        exact w_X8_readsNumber_43 X  _ _ _ _ _ _ h hp (lv_sub hl [0, 1, 2] rfl)
      · have h := h.2 c9
        exact w_X8_readsNumber_37 X  _ _ _ _ h hp (lv_sub hl [0] rfl)
set_option maxRecDepth 100000 in
theorem C_X8_readsNumber {E : EE} {l : Launch} {x1 : Int32} {x2 : Int32} {I : II} {Q : Int32 → II → Prop} (h : wp_X8_readsNumber x1 x2 I Q) : Met l yX8_readsNumber (Cond.code yX8_readsNumber cX8_readsNumber 4 (some .boolean) :: lwT) rmX8_readsNumber (va_Pc [.ref (E.2.1 315), .int x1, .int x2] (PU E I)) (va_Qi Q (BU E) E.2.2.2.1) 0 0 E.2.2.2.1 :=
  ofWalk [.ref (E.2.1 315), .int x1, .int x2] (by decide) tw_c_X8_readsNumber (Nat.le_of_ble_eq_true rfl) (fun p e s m below meth c ls X hp hl => w_X8_readsNumber_0 X _ _ _ _ _ _ h hp hl)
abbrev rmX8_readsLaw : Room := { frames := 3, cells := 0, slots := 0, locals := 69 }
theorem vf_X8_readsLaw : VF yX8_readsLaw RX8 cX8_readsLaw 1 (some .boolean) 0 := ⟨tw_in_X8, tw_im_X8_readsLaw, tw_se_X8_readsLaw, tw_c_X8_readsLaw, by decide, by decide, by decide +kernel⟩
def wp_X8_readsLaw (I : II) (Q : Int32 → II → Prop) : Prop := (wp_X8_sign (nI 98) I (fun r2 I1 => ((r2 = 0 → (Q (nI 0) I1)) ∧ (¬ r2 = 0 → (wp_X8_readsNumber (nI 0) (nI 20) I1 (fun r5 I4 => ((¬ r5 = 0 → (vp_in (nI 1324) 1372 ∧ ∀ I8 : II, I8 = su I4 316 (nI 1324).toNatClampNeg (I4 315 15) → (wp_X8_sign (nI 44) I8 (fun r11 I10 => ((r11 = 0 → (Q (nI 0) I10)) ∧ (¬ r11 = 0 → (wp_X8_readsNumber (nI 1) (nI 20) I10 (fun r14 I13 => ((¬ r14 = 0 → (vp_in (nI 1325) 1372 ∧ ∀ I17 : II, I17 = su I13 316 (nI 1325).toNatClampNeg (I13 315 15) → (wp_X8_sign (nI 59) I17 (fun r20 I19 => (isb r20 ∧ Q r20 I19))))) ∧ (r14 = 0 → (Q (nI 0) I13))))))))))) ∧ (r5 = 0 → (Q (nI 0) I4)))))))))
set_option maxHeartbeats 4000000 in
set_option maxRecDepth 100000 in
theorem w_X8_readsLaw_0 {E : EE} {p : Program} {l : Launch} {e : Env} {s : State} {m : MethodId} {args : Array Value} {below : List Frame} {meth : Method} {c : Code} {Q : Int32 → II → Prop} (X : CX E p s m args meth c cX8_readsLaw 1 (some .boolean) RX8) : ∀ (I : II) (H : Heap) (locs : List Loc) (ls : Array Slot), wp_X8_readsLaw I Q → PP E s H locs I → lv_has ls 1 [(0, .ref (E.2.1 315))] → W p l e rmX8_readsLaw s m args below meth c H locs 0 0 (MQ below (va_Qi Q (BU E) E.2.2.2.1) args s 0 0 E.2.2.2.1) (F0 m 0 ls []) := by
  obtain ⟨⟨hx, hb, hml, hown, hts⟩, hr, hlk, hK, hST, hN⟩ := id X
  intro I H locs ls h hp hl
  unfold wp_X8_readsLaw at h
  refine lv_aload_n hx hb dX8_readsLaw_0 rfl (lv_at hl 0 rfl) ?_
  refine lv_bipush (v := (nI 98)) hx hb dX8_readsLaw_1 (by decide) ?_
  refine ki (kV (As := [.int (nI 98)]) (rest := []) X hp (C_X8_sign  h) tw_ml_X8_99 vf_X8_sign ⟨rfl, rfl, Nat.le_of_ble_eq_true rfl, Nat.le_of_ble_eq_true rfl⟩ (pr_rcv X hp (k := 315) (by decide) (ob_315 _) (q := (RX8, TX8, 18)) rfl) rfl hl.1 rfl (Nat.le_of_ble_eq_true rfl) dX8_readsLaw_3) hp (fun r2 I1 H locs h hp => ?_)
  refine lv_if_eq (tgt := 19) hx hb dX8_readsLaw_6 (by decide) (fun c3 => ?_) (fun c3 => ?_)
  · have h := h.1 c3
    refine lv_iconst (v := (nI 0)) hx hb dX8_readsLaw_19 (by decide) ?_
    exact rt_z X hp ⟨Or.inl rfl, h⟩ dX8_readsLaw_20
  · have h := h.2 c3
    refine lv_aload_n hx hb dX8_readsLaw_9 rfl (lv_at hl 0 rfl) ?_
    refine lv_iconst (v := (nI 0)) hx hb dX8_readsLaw_10 (by decide) ?_
    refine lv_bipush (v := (nI 20)) hx hb dX8_readsLaw_11 (by decide) ?_
    refine ki (kV (As := [.int (nI 0), .int (nI 20)]) (rest := []) X hp (C_X8_readsNumber  h) tw_ml_X8_102 vf_X8_readsNumber ⟨rfl, rfl, Nat.le_of_ble_eq_true rfl, Nat.le_of_ble_eq_true rfl⟩ (pr_rcv X hp (k := 315) (by decide) (ob_315 _) (q := (RX8, TX8, 18)) rfl) rfl hl.1 rfl (Nat.le_of_ble_eq_true rfl) dX8_readsLaw_13) hp (fun r5 I4 H locs h hp => ?_)
    refine lv_if_ne (tgt := 21) hx hb dX8_readsLaw_16 (by decide) (fun c6 => ?_) (fun c6 => ?_)
    · have h := h.1 c6
      refine lv_aload_n hx hb dX8_readsLaw_21 rfl (lv_at hl 0 rfl) ?_
      refine f_X8_7 X hp dX8_readsLaw_22 ?_
      refine lv_sipush (v := (nI 1324)) hx hb dX8_readsLaw_25 (by decide) ?_
      refine lv_aload_n hx hb dX8_readsLaw_28 rfl (lv_at hl 0 rfl) ?_
      refine f_X8_96 X hp dX8_readsLaw_29 ?_
      have hv7 := h.1
      have h := h.2
      refine as_i X hp ar_s316 hv7 dX8_readsLaw_32 (fun H locs hp => ?_)
      obtain ⟨I8, e9⟩ : ∃ y, y = su I4 316 (nI 1324).toNatClampNeg (I4 315 15) := ⟨_, rfl⟩
      have hp : PP E s H locs I8 := by rw [e9]; exact hp
      have h := h I8 e9
      refine lv_aload_n hx hb dX8_readsLaw_33 rfl (lv_at hl 0 rfl) ?_
      refine lv_bipush (v := (nI 44)) hx hb dX8_readsLaw_34 (by decide) ?_
      refine ki (kV (As := [.int (nI 44)]) (rest := []) X hp (C_X8_sign  h) tw_ml_X8_99 vf_X8_sign ⟨rfl, rfl, Nat.le_of_ble_eq_true rfl, Nat.le_of_ble_eq_true rfl⟩ (pr_rcv X hp (k := 315) (by decide) (ob_315 _) (q := (RX8, TX8, 18)) rfl) rfl hl.1 rfl (Nat.le_of_ble_eq_true rfl) dX8_readsLaw_36) hp (fun r11 I10 H locs h hp => ?_)
      refine lv_if_eq (tgt := 52) hx hb dX8_readsLaw_39 (by decide) (fun c12 => ?_) (fun c12 => ?_)
      · have h := h.1 c12
        refine lv_iconst (v := (nI 0)) hx hb dX8_readsLaw_52 (by decide) ?_
        exact rt_z X hp ⟨Or.inl rfl, h⟩ dX8_readsLaw_53
      · have h := h.2 c12
        refine lv_aload_n hx hb dX8_readsLaw_42 rfl (lv_at hl 0 rfl) ?_
        refine lv_iconst (v := (nI 1)) hx hb dX8_readsLaw_43 (by decide) ?_
        refine lv_bipush (v := (nI 20)) hx hb dX8_readsLaw_44 (by decide) ?_
        refine ki (kV (As := [.int (nI 1), .int (nI 20)]) (rest := []) X hp (C_X8_readsNumber  h) tw_ml_X8_102 vf_X8_readsNumber ⟨rfl, rfl, Nat.le_of_ble_eq_true rfl, Nat.le_of_ble_eq_true rfl⟩ (pr_rcv X hp (k := 315) (by decide) (ob_315 _) (q := (RX8, TX8, 18)) rfl) rfl hl.1 rfl (Nat.le_of_ble_eq_true rfl) dX8_readsLaw_46) hp (fun r14 I13 H locs h hp => ?_)
        refine lv_if_ne (tgt := 54) hx hb dX8_readsLaw_49 (by decide) (fun c15 => ?_) (fun c15 => ?_)
        · have h := h.1 c15
          refine lv_aload_n hx hb dX8_readsLaw_54 rfl (lv_at hl 0 rfl) ?_
          refine f_X8_7 X hp dX8_readsLaw_55 ?_
          refine lv_sipush (v := (nI 1325)) hx hb dX8_readsLaw_58 (by decide) ?_
          refine lv_aload_n hx hb dX8_readsLaw_61 rfl (lv_at hl 0 rfl) ?_
          refine f_X8_96 X hp dX8_readsLaw_62 ?_
          have hv16 := h.1
          have h := h.2
          refine as_i X hp ar_s316 hv16 dX8_readsLaw_65 (fun H locs hp => ?_)
          obtain ⟨I17, e18⟩ : ∃ y, y = su I13 316 (nI 1325).toNatClampNeg (I13 315 15) := ⟨_, rfl⟩
          have hp : PP E s H locs I17 := by rw [e18]; exact hp
          have h := h I17 e18
          refine lv_aload_n hx hb dX8_readsLaw_66 rfl (lv_at hl 0 rfl) ?_
          refine lv_bipush (v := (nI 59)) hx hb dX8_readsLaw_67 (by decide) ?_
          refine ki (kV (As := [.int (nI 59)]) (rest := []) X hp (C_X8_sign  h) tw_ml_X8_99 vf_X8_sign ⟨rfl, rfl, Nat.le_of_ble_eq_true rfl, Nat.le_of_ble_eq_true rfl⟩ (pr_rcv X hp (k := 315) (by decide) (ob_315 _) (q := (RX8, TX8, 18)) rfl) rfl hl.1 rfl (Nat.le_of_ble_eq_true rfl) dX8_readsLaw_69) hp (fun r20 I19 H locs h hp => ?_)
          exact rt_z X hp h dX8_readsLaw_72
        · have h := h.2 c15
          refine lv_iconst (v := (nI 0)) hx hb dX8_readsLaw_52 (by decide) ?_
          exact rt_z X hp ⟨Or.inl rfl, h⟩ dX8_readsLaw_53
    · have h := h.2 c6
      refine lv_iconst (v := (nI 0)) hx hb dX8_readsLaw_19 (by decide) ?_
      exact rt_z X hp ⟨Or.inl rfl, h⟩ dX8_readsLaw_20
set_option maxRecDepth 100000 in
theorem C_X8_readsLaw {E : EE} {l : Launch} {I : II} {Q : Int32 → II → Prop} (h : wp_X8_readsLaw I Q) : Met l yX8_readsLaw (Cond.code yX8_readsLaw cX8_readsLaw 1 (some .boolean) :: lwT) rmX8_readsLaw (va_Pc [.ref (E.2.1 315)] (PU E I)) (va_Qi Q (BU E) E.2.2.2.1) 0 0 E.2.2.2.1 :=
  ofWalk [.ref (E.2.1 315)] (by decide) tw_c_X8_readsLaw (Nat.le_of_ble_eq_true rfl) (fun p e s m below meth c ls X hp hl => w_X8_readsLaw_0 X _ _ _ _ h hp hl)
abbrev rmX8_kindOfLetter : Room := { frames := 0, cells := 0, slots := 0, locals := 0 }
theorem sf_X8_kindOfLetter : SF yX8_kindOfLetter cX8_kindOfLetter 1 (some .int) 1 := ⟨tw_in_X8, tw_st_X8_kindOfLetter, tw_c_X8_kindOfLetter, by decide, by decide, by decide +kernel⟩
def wp_X8_kindOfLetter (x0 : Int32) (I : II) (Q : Int32 → II → Prop) : Prop := ((¬ x0 = (nI 99) → ((¬ x0 = (nI 107) → ((¬ x0 = (nI 111) → ((¬ x0 = (nI 121) → ((¬ x0 = (nI 110) → (Q (nI 0) I)) ∧ (x0 = (nI 110) → (Q (nI 5) I)))) ∧ (x0 = (nI 121) → (Q (nI 4) I)))) ∧ (x0 = (nI 111) → (Q (nI 3) I)))) ∧ (x0 = (nI 107) → (Q (nI 2) I)))) ∧ (x0 = (nI 99) → (Q (nI 1) I)))
set_option maxHeartbeats 4000000 in
set_option maxRecDepth 100000 in
theorem w_X8_kindOfLetter_0 {E : EE} {p : Program} {l : Launch} {e : Env} {s : State} {m : MethodId} {args : Array Value} {below : List Frame} {meth : Method} {c : Code} {Q : Int32 → II → Prop} (X : CX E p s m args meth c cX8_kindOfLetter 1 (some .int) RX8) : ∀ (x0 : Int32) (I : II) (H : Heap) (locs : List Loc) (ls : Array Slot), wp_X8_kindOfLetter x0 I Q → PP E s H locs I → lv_has ls 1 [(0, .int x0)] → W p l e rmX8_kindOfLetter s m args below meth c H locs 0 0 (MQ below (va_Qi Q (BU E) E.2.2.2.1) args s 0 0 E.2.2.2.1) (F0 m 0 ls []) := by
  obtain ⟨⟨hx, hb, hml, hown, hts⟩, hr, hlk, hK, hST, hN⟩ := id X
  intro x0 I H locs ls h hp hl
  unfold wp_X8_kindOfLetter at h
  refine lv_iload_n hx hb dX8_kindOfLetter_0 rfl (lv_at hl 0 rfl) ?_
  refine lv_bipush (v := (nI 99)) hx hb dX8_kindOfLetter_1 (by decide) ?_
  refine lv_icmp_ne (tgt := 10) hx hb dX8_kindOfLetter_3 (by decide) (fun c1 => ?_) (fun c1 => ?_)
  · have h := h.1 c1
    refine lv_iload_n hx hb dX8_kindOfLetter_10 rfl (lv_at hl 0 rfl) ?_
    refine lv_bipush (v := (nI 107)) hx hb dX8_kindOfLetter_11 (by decide) ?_
    refine lv_icmp_ne (tgt := 20) hx hb dX8_kindOfLetter_13 (by decide) (fun c2 => ?_) (fun c2 => ?_)
    · have h := h.1 c2
      refine lv_iload_n hx hb dX8_kindOfLetter_20 rfl (lv_at hl 0 rfl) ?_
      refine lv_bipush (v := (nI 111)) hx hb dX8_kindOfLetter_21 (by decide) ?_
      refine lv_icmp_ne (tgt := 30) hx hb dX8_kindOfLetter_23 (by decide) (fun c3 => ?_) (fun c3 => ?_)
      · have h := h.1 c3
        refine lv_iload_n hx hb dX8_kindOfLetter_30 rfl (lv_at hl 0 rfl) ?_
        refine lv_bipush (v := (nI 121)) hx hb dX8_kindOfLetter_31 (by decide) ?_
        refine lv_icmp_ne (tgt := 40) hx hb dX8_kindOfLetter_33 (by decide) (fun c4 => ?_) (fun c4 => ?_)
        · have h := h.1 c4
          refine lv_iload_n hx hb dX8_kindOfLetter_40 rfl (lv_at hl 0 rfl) ?_
          refine lv_bipush (v := (nI 110)) hx hb dX8_kindOfLetter_41 (by decide) ?_
          refine lv_icmp_ne (tgt := 50) hx hb dX8_kindOfLetter_43 (by decide) (fun c5 => ?_) (fun c5 => ?_)
          · have h := h.1 c5
            refine lv_iconst (v := (nI 0)) hx hb dX8_kindOfLetter_50 (by decide) ?_
            exact rt_i X hp h dX8_kindOfLetter_51
          · have h := h.2 c5
            refine lv_iconst (v := (nI 5)) hx hb dX8_kindOfLetter_46 (by decide) ?_
            refine lv_goto (tgt := 51) hx hb dX8_kindOfLetter_47 (by decide) ?_
            exact rt_i X hp h dX8_kindOfLetter_51
        · have h := h.2 c4
          refine lv_iconst (v := (nI 4)) hx hb dX8_kindOfLetter_36 (by decide) ?_
          refine lv_goto (tgt := 51) hx hb dX8_kindOfLetter_37 (by decide) ?_
          exact rt_i X hp h dX8_kindOfLetter_51
      · have h := h.2 c3
        refine lv_iconst (v := (nI 3)) hx hb dX8_kindOfLetter_26 (by decide) ?_
        refine lv_goto (tgt := 51) hx hb dX8_kindOfLetter_27 (by decide) ?_
        exact rt_i X hp h dX8_kindOfLetter_51
    · have h := h.2 c2
      refine lv_iconst (v := (nI 2)) hx hb dX8_kindOfLetter_16 (by decide) ?_
      refine lv_goto (tgt := 51) hx hb dX8_kindOfLetter_17 (by decide) ?_
      exact rt_i X hp h dX8_kindOfLetter_51
  · have h := h.2 c1
    refine lv_iconst (v := (nI 1)) hx hb dX8_kindOfLetter_6 (by decide) ?_
    refine lv_goto (tgt := 51) hx hb dX8_kindOfLetter_7 (by decide) ?_
    exact rt_i X hp h dX8_kindOfLetter_51
set_option maxRecDepth 100000 in
theorem C_X8_kindOfLetter {E : EE} {l : Launch} {x0 : Int32} {I : II} {Q : Int32 → II → Prop} (h : wp_X8_kindOfLetter x0 I Q) : Met l yX8_kindOfLetter (Cond.code yX8_kindOfLetter cX8_kindOfLetter 1 (some .int) :: lwT) rmX8_kindOfLetter (va_Pc [.int x0] (PU E I)) (va_Qi Q (BU E) E.2.2.2.1) 0 0 E.2.2.2.1 :=
  ofWalk [.int x0] (by decide) tw_c_X8_kindOfLetter (Nat.le_of_ble_eq_true rfl) (fun p e s m below meth c ls X hp hl => w_X8_kindOfLetter_0 X _ _ _ _ _ h hp hl)
abbrev rmX8_readsTeller : Room := { frames := 3, cells := 0, slots := 0, locals := 69 }
theorem vf_X8_readsTeller : VF yX8_readsTeller RX8 cX8_readsTeller 2 (some .boolean) 0 := ⟨tw_in_X8, tw_im_X8_readsTeller, tw_se_X8_readsTeller, tw_c_X8_readsTeller, by decide, by decide, by decide +kernel⟩
def wp_X8_readsTeller (I : II) (Q : Int32 → II → Prop) : Prop := (vp_in (nI 1323) 1372 ∧ ((¬ (I 316 (nI 1323).toNatClampNeg) = (nI 4) → (vp_in (I 315 13) 120 ∧ (wp_X8_kindOfLetter (I 321 (I 315 13).toNatClampNeg) I (fun r5 I4 => (vp_in ((nI 1352) + (I 316 (nI 1323).toNatClampNeg)) 1372 ∧ ∀ I7 : II, I7 = su I4 316 ((nI 1352) + (I 316 (nI 1323).toNatClampNeg)).toNatClampNeg r5 → (∀ I9 : II, I9 = su I7 315 13 ((I7 315 13) + (nI 1)) → (wp_X8_readsNumber (nI 0) (nI 60) I9 (fun r12 I11 => ((¬ r12 = 0 → (vp_in ((nI 1356) + (I 316 (nI 1323).toNatClampNeg)) 1372 ∧ ∀ I15 : II, I15 = su I11 316 ((nI 1356) + (I 316 (nI 1323).toNatClampNeg)).toNatClampNeg (I11 315 15) → (vp_in ((nI 1364) + (I 316 (nI 1323).toNatClampNeg)) 1372 ∧ ∀ I18 : II, I18 = su I15 316 ((nI 1364) + (I 316 (nI 1323).toNatClampNeg)).toNatClampNeg (I15 315 15) → (wp_X8_sign (nI 44) I18 (fun r21 I20 => ((r21 = 0 → (Q (nI 0) I20)) ∧ (¬ r21 = 0 → (wp_X8_readsNumber (nI 1) (nI 9) I20 (fun r24 I23 => ((¬ r24 = 0 → (vp_in ((nI 1360) + (I 316 (nI 1323).toNatClampNeg)) 1372 ∧ ∀ I27 : II, I27 = su I23 316 ((nI 1360) + (I 316 (nI 1323).toNatClampNeg)).toNatClampNeg (I23 315 15) → (vp_in (nI 1323) 1372 ∧ (vp_in (nI 1323) 1372 ∧ ∀ I31 : II, I31 = su I27 316 (nI 1323).toNatClampNeg ((I27 316 (nI 1323).toNatClampNeg) + (nI 1)) → (wp_X8_sign (nI 59) I31 (fun r34 I33 => (isb r34 ∧ Q r34 I33))))))) ∧ (r24 = 0 → (Q (nI 0) I23)))))))))))) ∧ (r12 = 0 → (Q (nI 0) I11))))))))))) ∧ ((I 316 (nI 1323).toNatClampNeg) = (nI 4) → (wp_X8_refuse (nI 3) I (fun r36 I35 => (isb r36 ∧ Q r36 I35))))))
set_option maxHeartbeats 4000000 in
set_option maxRecDepth 100000 in
theorem w_X8_readsTeller_0 {E : EE} {p : Program} {l : Launch} {e : Env} {s : State} {m : MethodId} {args : Array Value} {below : List Frame} {meth : Method} {c : Code} {Q : Int32 → II → Prop} (X : CX E p s m args meth c cX8_readsTeller 2 (some .boolean) RX8) : ∀ (I : II) (H : Heap) (locs : List Loc) (ls : Array Slot), wp_X8_readsTeller I Q → PP E s H locs I → lv_has ls 2 [(0, .ref (E.2.1 315))] → W p l e rmX8_readsTeller s m args below meth c H locs 0 0 (MQ below (va_Qi Q (BU E) E.2.2.2.1) args s 0 0 E.2.2.2.1) (F0 m 0 ls []) := by
  obtain ⟨⟨hx, hb, hml, hown, hts⟩, hr, hlk, hK, hST, hN⟩ := id X
  intro I H locs ls h hp hl
  unfold wp_X8_readsTeller at h
  refine lv_aload_n hx hb dX8_readsTeller_0 rfl (lv_at hl 0 rfl) ?_
  refine f_X8_7 X hp dX8_readsTeller_1 ?_
  refine lv_sipush (v := (nI 1323)) hx hb dX8_readsTeller_4 (by decide) ?_
  have hv1 := h.1
  have h := h.2
  refine al_i X hp ar_s316 hv1 dX8_readsTeller_7 ?_
  refine lv_istore_n (lv' := [(1, .int (I 316 (nI 1323).toNatClampNeg)), (0, .ref (E.2.1 315))]) hx hb dX8_readsTeller_8 rfl hl (by decide) rfl (fun ls hl => ?_)
  refine lv_iload_n hx hb dX8_readsTeller_9 rfl (lv_at hl 0 rfl) ?_
  refine lv_iconst (v := (nI 4)) hx hb dX8_readsTeller_10 (by decide) ?_
  refine lv_icmp_ne (tgt := 20) hx hb dX8_readsTeller_11 (by decide) (fun c2 => ?_) (fun c2 => ?_)
  · have h := h.1 c2
    refine lv_aload_n hx hb dX8_readsTeller_20 rfl (lv_at hl 1 rfl) ?_
    refine f_X8_7 X hp dX8_readsTeller_21 ?_
    refine lv_sipush (v := (nI 1352)) hx hb dX8_readsTeller_24 (by decide) ?_
    refine lv_iload_n hx hb dX8_readsTeller_27 rfl (lv_at hl 0 rfl) ?_
    refine lv_iadd hx hb dX8_readsTeller_28 ?_
    refine lv_aload_n hx hb dX8_readsTeller_29 rfl (lv_at hl 1 rfl) ?_
    refine f_X8_26 X hp dX8_readsTeller_30 ?_
    refine lv_aload_n hx hb dX8_readsTeller_33 rfl (lv_at hl 1 rfl) ?_
    refine f_X8_77 X hp dX8_readsTeller_34 ?_
    have hv3 := h.1
    have h := h.2
    refine al_i X hp ar_s321 hv3 dX8_readsTeller_37 ?_
    refine ki (kS (As := [.int (I 321 (I 315 13).toNatClampNeg)]) (rest := [.int ((nI 1352) + (I 316 (nI 1323).toNatClampNeg)), .ref (E.2.1 316)]) X hp (C_X8_kindOfLetter  h) tw_ml_X8_106 sf_X8_kindOfLetter ⟨rfl, rfl, Nat.le_of_ble_eq_true rfl, Nat.le_of_ble_eq_true rfl⟩ rfl hl.1 rfl (Nat.le_of_ble_eq_true rfl) dX8_readsTeller_38) hp (fun r5 I4 H locs h hp => ?_)
    have hv6 := h.1
    have h := h.2
    refine as_i X hp ar_s316 hv6 dX8_readsTeller_41 (fun H locs hp => ?_)
    obtain ⟨I7, e8⟩ : ∃ y, y = su I4 316 ((nI 1352) + (I 316 (nI 1323).toNatClampNeg)).toNatClampNeg r5 := ⟨_, rfl⟩
    have hp : PP E s H locs I7 := by rw [e8]; exact hp
    have h := h I7 e8
    refine lv_aload_n hx hb dX8_readsTeller_42 rfl (lv_at hl 1 rfl) ?_
    refine lv_dup hx hb dX8_readsTeller_43 rfl ?_
    refine f_X8_77 X hp dX8_readsTeller_44 ?_
    refine lv_iconst (v := (nI 1)) hx hb dX8_readsTeller_47 (by decide) ?_
    refine lv_iadd hx hb dX8_readsTeller_48 ?_
    refine g_X8_77 X hp dX8_readsTeller_49 (fun H locs hp => ?_)
    obtain ⟨I9, e10⟩ : ∃ y, y = su I7 315 13 ((I7 315 13) + (nI 1)) := ⟨_, rfl⟩
    have hp : PP E s H locs I9 := by rw [e10]; exact hp
    have h := h I9 e10
    refine lv_aload_n hx hb dX8_readsTeller_52 rfl (lv_at hl 1 rfl) ?_
    refine lv_iconst (v := (nI 0)) hx hb dX8_readsTeller_53 (by decide) ?_
    refine lv_bipush (v := (nI 60)) hx hb dX8_readsTeller_54 (by decide) ?_
    refine ki (kV (As := [.int (nI 0), .int (nI 60)]) (rest := []) X hp (C_X8_readsNumber  h) tw_ml_X8_102 vf_X8_readsNumber ⟨rfl, rfl, Nat.le_of_ble_eq_true rfl, Nat.le_of_ble_eq_true rfl⟩ (pr_rcv X hp (k := 315) (by decide) (ob_315 _) (q := (RX8, TX8, 18)) rfl) rfl hl.1 rfl (Nat.le_of_ble_eq_true rfl) dX8_readsTeller_56) hp (fun r12 I11 H locs h hp => ?_)
    refine lv_if_ne (tgt := 64) hx hb dX8_readsTeller_59 (by decide) (fun c13 => ?_) (fun c13 => ?_)
    · have h := h.1 c13
      refine lv_aload_n hx hb dX8_readsTeller_64 rfl (lv_at hl 1 rfl) ?_
      refine f_X8_7 X hp dX8_readsTeller_65 ?_
      refine lv_sipush (v := (nI 1356)) hx hb dX8_readsTeller_68 (by decide) ?_
      refine lv_iload_n hx hb dX8_readsTeller_71 rfl (lv_at hl 0 rfl) ?_
      refine lv_iadd hx hb dX8_readsTeller_72 ?_
      refine lv_aload_n hx hb dX8_readsTeller_73 rfl (lv_at hl 1 rfl) ?_
      refine f_X8_96 X hp dX8_readsTeller_74 ?_
      have hv14 := h.1
      have h := h.2
      refine as_i X hp ar_s316 hv14 dX8_readsTeller_77 (fun H locs hp => ?_)
      obtain ⟨I15, e16⟩ : ∃ y, y = su I11 316 ((nI 1356) + (I 316 (nI 1323).toNatClampNeg)).toNatClampNeg (I11 315 15) := ⟨_, rfl⟩
      have hp : PP E s H locs I15 := by rw [e16]; exact hp
      have h := h I15 e16
      refine lv_aload_n hx hb dX8_readsTeller_78 rfl (lv_at hl 1 rfl) ?_
      refine f_X8_7 X hp dX8_readsTeller_79 ?_
      refine lv_sipush (v := (nI 1364)) hx hb dX8_readsTeller_82 (by decide) ?_
      refine lv_iload_n hx hb dX8_readsTeller_85 rfl (lv_at hl 0 rfl) ?_
      refine lv_iadd hx hb dX8_readsTeller_86 ?_
      refine lv_aload_n hx hb dX8_readsTeller_87 rfl (lv_at hl 1 rfl) ?_
      refine f_X8_96 X hp dX8_readsTeller_88 ?_
      have hv17 := h.1
      have h := h.2
      refine as_i X hp ar_s316 hv17 dX8_readsTeller_91 (fun H locs hp => ?_)
      obtain ⟨I18, e19⟩ : ∃ y, y = su I15 316 ((nI 1364) + (I 316 (nI 1323).toNatClampNeg)).toNatClampNeg (I15 315 15) := ⟨_, rfl⟩
      have hp : PP E s H locs I18 := by rw [e19]; exact hp
      have h := h I18 e19
      refine lv_aload_n hx hb dX8_readsTeller_92 rfl (lv_at hl 1 rfl) ?_
      refine lv_bipush (v := (nI 44)) hx hb dX8_readsTeller_93 (by decide) ?_
      refine ki (kV (As := [.int (nI 44)]) (rest := []) X hp (C_X8_sign  h) tw_ml_X8_99 vf_X8_sign ⟨rfl, rfl, Nat.le_of_ble_eq_true rfl, Nat.le_of_ble_eq_true rfl⟩ (pr_rcv X hp (k := 315) (by decide) (ob_315 _) (q := (RX8, TX8, 18)) rfl) rfl hl.1 rfl (Nat.le_of_ble_eq_true rfl) dX8_readsTeller_95) hp (fun r21 I20 H locs h hp => ?_)
      refine lv_if_eq (tgt := 111) hx hb dX8_readsTeller_98 (by decide) (fun c22 => ?_) (fun c22 => ?_)
      · have h := h.1 c22
        refine lv_iconst (v := (nI 0)) hx hb dX8_readsTeller_111 (by decide) ?_
        exact rt_z X hp ⟨Or.inl rfl, h⟩ dX8_readsTeller_112
      · have h := h.2 c22
        refine lv_aload_n hx hb dX8_readsTeller_101 rfl (lv_at hl 1 rfl) ?_
        refine lv_iconst (v := (nI 1)) hx hb dX8_readsTeller_102 (by decide) ?_
        refine lv_bipush (v := (nI 9)) hx hb dX8_readsTeller_103 (by decide) ?_
        refine ki (kV (As := [.int (nI 1), .int (nI 9)]) (rest := []) X hp (C_X8_readsNumber  h) tw_ml_X8_102 vf_X8_readsNumber ⟨rfl, rfl, Nat.le_of_ble_eq_true rfl, Nat.le_of_ble_eq_true rfl⟩ (pr_rcv X hp (k := 315) (by decide) (ob_315 _) (q := (RX8, TX8, 18)) rfl) rfl hl.1 rfl (Nat.le_of_ble_eq_true rfl) dX8_readsTeller_105) hp (fun r24 I23 H locs h hp => ?_)
        refine lv_if_ne (tgt := 113) hx hb dX8_readsTeller_108 (by decide) (fun c25 => ?_) (fun c25 => ?_)
        · have h := h.1 c25
          refine lv_aload_n hx hb dX8_readsTeller_113 rfl (lv_at hl 1 rfl) ?_
          refine f_X8_7 X hp dX8_readsTeller_114 ?_
          refine lv_sipush (v := (nI 1360)) hx hb dX8_readsTeller_117 (by decide) ?_
          refine lv_iload_n hx hb dX8_readsTeller_120 rfl (lv_at hl 0 rfl) ?_
          refine lv_iadd hx hb dX8_readsTeller_121 ?_
          refine lv_aload_n hx hb dX8_readsTeller_122 rfl (lv_at hl 1 rfl) ?_
          refine f_X8_96 X hp dX8_readsTeller_123 ?_
          have hv26 := h.1
          have h := h.2
          refine as_i X hp ar_s316 hv26 dX8_readsTeller_126 (fun H locs hp => ?_)
          obtain ⟨I27, e28⟩ : ∃ y, y = su I23 316 ((nI 1360) + (I 316 (nI 1323).toNatClampNeg)).toNatClampNeg (I23 315 15) := ⟨_, rfl⟩
          have hp : PP E s H locs I27 := by rw [e28]; exact hp
          have h := h I27 e28
          refine lv_aload_n hx hb dX8_readsTeller_127 rfl (lv_at hl 1 rfl) ?_
          refine f_X8_7 X hp dX8_readsTeller_128 ?_
          refine lv_sipush (v := (nI 1323)) hx hb dX8_readsTeller_131 (by decide) ?_
          refine lv_dup2_11 hx hb dX8_readsTeller_134 rfl rfl ?_
          have hv29 := h.1
          have h := h.2
          refine al_i X hp ar_s316 hv29 dX8_readsTeller_135 ?_
          refine lv_iconst (v := (nI 1)) hx hb dX8_readsTeller_136 (by decide) ?_
          refine lv_iadd hx hb dX8_readsTeller_137 ?_
          have hv30 := h.1
          have h := h.2
          refine as_i X hp ar_s316 hv30 dX8_readsTeller_138 (fun H locs hp => ?_)
          obtain ⟨I31, e32⟩ : ∃ y, y = su I27 316 (nI 1323).toNatClampNeg ((I27 316 (nI 1323).toNatClampNeg) + (nI 1)) := ⟨_, rfl⟩
          have hp : PP E s H locs I31 := by rw [e32]; exact hp
          have h := h I31 e32
          refine lv_aload_n hx hb dX8_readsTeller_139 rfl (lv_at hl 1 rfl) ?_
          refine lv_bipush (v := (nI 59)) hx hb dX8_readsTeller_140 (by decide) ?_
          refine ki (kV (As := [.int (nI 59)]) (rest := []) X hp (C_X8_sign  h) tw_ml_X8_99 vf_X8_sign ⟨rfl, rfl, Nat.le_of_ble_eq_true rfl, Nat.le_of_ble_eq_true rfl⟩ (pr_rcv X hp (k := 315) (by decide) (ob_315 _) (q := (RX8, TX8, 18)) rfl) rfl hl.1 rfl (Nat.le_of_ble_eq_true rfl) dX8_readsTeller_142) hp (fun r34 I33 H locs h hp => ?_)
          exact rt_z X hp h dX8_readsTeller_145
        · have h := h.2 c25
          refine lv_iconst (v := (nI 0)) hx hb dX8_readsTeller_111 (by decide) ?_
          exact rt_z X hp ⟨Or.inl rfl, h⟩ dX8_readsTeller_112
    · have h := h.2 c13
      refine lv_iconst (v := (nI 0)) hx hb dX8_readsTeller_62 (by decide) ?_
      exact rt_z X hp ⟨Or.inl rfl, h⟩ dX8_readsTeller_63
  · have h := h.2 c2
    refine lv_aload_n hx hb dX8_readsTeller_14 rfl (lv_at hl 1 rfl) ?_
    refine lv_iconst (v := (nI 3)) hx hb dX8_readsTeller_15 (by decide) ?_
    refine ki (kV (As := [.int (nI 3)]) (rest := []) X hp (C_X8_refuse  h) tw_ml_X8_90 vf_X8_refuse ⟨rfl, rfl, Nat.le_of_ble_eq_true rfl, Nat.le_of_ble_eq_true rfl⟩ (pr_rcv X hp (k := 315) (by decide) (ob_315 _) (q := (RX8, TX8, 18)) rfl) rfl hl.1 rfl (Nat.le_of_ble_eq_true rfl) dX8_readsTeller_16) hp (fun r36 I35 H locs h hp => ?_)
    exact rt_z X hp h dX8_readsTeller_19
set_option maxRecDepth 100000 in
theorem C_X8_readsTeller {E : EE} {l : Launch} {I : II} {Q : Int32 → II → Prop} (h : wp_X8_readsTeller I Q) : Met l yX8_readsTeller (Cond.code yX8_readsTeller cX8_readsTeller 2 (some .boolean) :: lwT) rmX8_readsTeller (va_Pc [.ref (E.2.1 315)] (PU E I)) (va_Qi Q (BU E) E.2.2.2.1) 0 0 E.2.2.2.1 :=
  ofWalk [.ref (E.2.1 315)] (by decide) tw_c_X8_readsTeller (Nat.le_of_ble_eq_true rfl) (fun p e s m below meth c ls X hp hl => w_X8_readsTeller_0 X _ _ _ _ h hp hl)
abbrev rmX8_readsPaper : Room := { frames := 3, cells := 0, slots := 0, locals := 69 }
theorem vf_X8_readsPaper : VF yX8_readsPaper RX8 cX8_readsPaper 2 (some .boolean) 0 := ⟨tw_in_X8, tw_im_X8_readsPaper, tw_se_X8_readsPaper, tw_c_X8_readsPaper, by decide, by decide, by decide +kernel⟩
def wp_X8_readsPaper_49 (Q : Int32 → II → Prop) (x1 : Int32) (v0 : Int32) (v1 : Int32) (I : II) : Prop := (vp_in v1 1372 ∧ ∀ I2 : II, I2 = su I 316 v1.toNatClampNeg v0 → (∀ I4 : II, I4 = su I2 315 13 ((I2 315 13) + (nI 1)) → (wp_X8_readsNumber (nI 1) (nI 30) I4 (fun r7 I6 => ((¬ r7 = 0 → (vp_in ((nI 1338) + x1) 1372 ∧ ∀ I10 : II, I10 = su I6 316 ((nI 1338) + x1).toNatClampNeg (I6 315 15) → (vp_in ((nI 1331) + x1) 1372 ∧ ∀ I13 : II, I13 = su I10 316 ((nI 1331) + x1).toNatClampNeg x1 → (vp_in (nI 1330) 1372 ∧ (vp_in (nI 1330) 1372 ∧ ∀ I17 : II, I17 = su I13 316 (nI 1330).toNatClampNeg ((I13 316 (nI 1330).toNatClampNeg) + (nI 1)) → (wp_X8_sign (nI 59) I17 (fun r20 I19 => (isb r20 ∧ Q r20 I19)))))))) ∧ (r7 = 0 → (Q (nI 0) I6)))))))
set_option maxHeartbeats 4000000 in
set_option maxRecDepth 100000 in
theorem w_X8_readsPaper_49 {E : EE} {p : Program} {l : Launch} {e : Env} {s : State} {m : MethodId} {args : Array Value} {below : List Frame} {meth : Method} {c : Code} {Q : Int32 → II → Prop} (X : CX E p s m args meth c cX8_readsPaper 2 (some .boolean) RX8) : ∀ (x1 : Int32) (v0 : Int32) (v1 : Int32) (I : II) (H : Heap) (locs : List Loc) (ls : Array Slot), wp_X8_readsPaper_49 Q x1 v0 v1 I → PP E s H locs I → lv_has ls 2 [(0, .ref (E.2.1 315)), (1, .int x1)] → W p l e rmX8_readsPaper s m args below meth c H locs 0 0 (MQ below (va_Qi Q (BU E) E.2.2.2.1) args s 0 0 E.2.2.2.1) (F0 m 49 ls [.int v0, .int v1, .ref (E.2.1 316)]) := by
  obtain ⟨⟨hx, hb, hml, hown, hts⟩, hr, hlk, hK, hST, hN⟩ := id X
  intro x1 v0 v1 I H locs ls h hp hl
  unfold wp_X8_readsPaper_49 at h
  have hv1 := h.1
  have h := h.2
  refine as_i X hp ar_s316 hv1 dX8_readsPaper_49 (fun H locs hp => ?_)
  obtain ⟨I2, e3⟩ : ∃ y, y = su I 316 v1.toNatClampNeg v0 := ⟨_, rfl⟩
  have hp : PP E s H locs I2 := by rw [e3]; exact hp
  have h := h I2 e3
  refine lv_aload_n hx hb dX8_readsPaper_50 rfl (lv_at hl 0 rfl) ?_
  refine lv_dup hx hb dX8_readsPaper_51 rfl ?_
  refine f_X8_77 X hp dX8_readsPaper_52 ?_
  refine lv_iconst (v := (nI 1)) hx hb dX8_readsPaper_55 (by decide) ?_
  refine lv_iadd hx hb dX8_readsPaper_56 ?_
  refine g_X8_77 X hp dX8_readsPaper_57 (fun H locs hp => ?_)
  obtain ⟨I4, e5⟩ : ∃ y, y = su I2 315 13 ((I2 315 13) + (nI 1)) := ⟨_, rfl⟩
  have hp : PP E s H locs I4 := by rw [e5]; exact hp
  have h := h I4 e5
  refine lv_aload_n hx hb dX8_readsPaper_60 rfl (lv_at hl 0 rfl) ?_
  refine lv_iconst (v := (nI 1)) hx hb dX8_readsPaper_61 (by decide) ?_
  refine lv_bipush (v := (nI 30)) hx hb dX8_readsPaper_62 (by decide) ?_
  refine ki (kV (As := [.int (nI 1), .int (nI 30)]) (rest := []) X hp (C_X8_readsNumber  h) tw_ml_X8_102 vf_X8_readsNumber ⟨rfl, rfl, Nat.le_of_ble_eq_true rfl, Nat.le_of_ble_eq_true rfl⟩ (pr_rcv X hp (k := 315) (by decide) (ob_315 _) (q := (RX8, TX8, 18)) rfl) rfl hl.1 rfl (Nat.le_of_ble_eq_true rfl) dX8_readsPaper_64) hp (fun r7 I6 H locs h hp => ?_)
  refine lv_if_ne (tgt := 72) hx hb dX8_readsPaper_67 (by decide) (fun c8 => ?_) (fun c8 => ?_)
  · have h := h.1 c8
    refine lv_aload_n hx hb dX8_readsPaper_72 rfl (lv_at hl 0 rfl) ?_
    refine f_X8_7 X hp dX8_readsPaper_73 ?_
    refine lv_sipush (v := (nI 1338)) hx hb dX8_readsPaper_76 (by decide) ?_
    refine lv_iload_n hx hb dX8_readsPaper_79 rfl (lv_at hl 1 rfl) ?_
    refine lv_iadd hx hb dX8_readsPaper_80 ?_
    refine lv_aload_n hx hb dX8_readsPaper_81 rfl (lv_at hl 0 rfl) ?_
    refine f_X8_96 X hp dX8_readsPaper_82 ?_
    have hv9 := h.1
    have h := h.2
    refine as_i X hp ar_s316 hv9 dX8_readsPaper_85 (fun H locs hp => ?_)
    obtain ⟨I10, e11⟩ : ∃ y, y = su I6 316 ((nI 1338) + x1).toNatClampNeg (I6 315 15) := ⟨_, rfl⟩
    have hp : PP E s H locs I10 := by rw [e11]; exact hp
    have h := h I10 e11
    refine lv_aload_n hx hb dX8_readsPaper_86 rfl (lv_at hl 0 rfl) ?_
    refine f_X8_7 X hp dX8_readsPaper_87 ?_
    refine lv_sipush (v := (nI 1331)) hx hb dX8_readsPaper_90 (by decide) ?_
    refine lv_iload_n hx hb dX8_readsPaper_93 rfl (lv_at hl 1 rfl) ?_
    refine lv_iadd hx hb dX8_readsPaper_94 ?_
    refine lv_iload_n hx hb dX8_readsPaper_95 rfl (lv_at hl 1 rfl) ?_
    have hv12 := h.1
    have h := h.2
    refine as_i X hp ar_s316 hv12 dX8_readsPaper_96 (fun H locs hp => ?_)
    obtain ⟨I13, e14⟩ : ∃ y, y = su I10 316 ((nI 1331) + x1).toNatClampNeg x1 := ⟨_, rfl⟩
    have hp : PP E s H locs I13 := by rw [e14]; exact hp
    have h := h I13 e14
    refine lv_aload_n hx hb dX8_readsPaper_97 rfl (lv_at hl 0 rfl) ?_
    refine f_X8_7 X hp dX8_readsPaper_98 ?_
    refine lv_sipush (v := (nI 1330)) hx hb dX8_readsPaper_101 (by decide) ?_
    refine lv_dup2_11 hx hb dX8_readsPaper_104 rfl rfl ?_
    have hv15 := h.1
    have h := h.2
    refine al_i X hp ar_s316 hv15 dX8_readsPaper_105 ?_
    refine lv_iconst (v := (nI 1)) hx hb dX8_readsPaper_106 (by decide) ?_
    refine lv_iadd hx hb dX8_readsPaper_107 ?_
    have hv16 := h.1
    have h := h.2
    refine as_i X hp ar_s316 hv16 dX8_readsPaper_108 (fun H locs hp => ?_)
    obtain ⟨I17, e18⟩ : ∃ y, y = su I13 316 (nI 1330).toNatClampNeg ((I13 316 (nI 1330).toNatClampNeg) + (nI 1)) := ⟨_, rfl⟩
    have hp : PP E s H locs I17 := by rw [e18]; exact hp
    have h := h I17 e18
    refine lv_aload_n hx hb dX8_readsPaper_109 rfl (lv_at hl 0 rfl) ?_
    refine lv_bipush (v := (nI 59)) hx hb dX8_readsPaper_110 (by decide) ?_
    refine ki (kV (As := [.int (nI 59)]) (rest := []) X hp (C_X8_sign  h) tw_ml_X8_99 vf_X8_sign ⟨rfl, rfl, Nat.le_of_ble_eq_true rfl, Nat.le_of_ble_eq_true rfl⟩ (pr_rcv X hp (k := 315) (by decide) (ob_315 _) (q := (RX8, TX8, 18)) rfl) rfl hl.1 rfl (Nat.le_of_ble_eq_true rfl) dX8_readsPaper_112) hp (fun r20 I19 H locs h hp => ?_)
    exact rt_z X hp h dX8_readsPaper_115
  · have h := h.2 c8
    refine lv_iconst (v := (nI 0)) hx hb dX8_readsPaper_70 (by decide) ?_
    exact rt_z X hp ⟨Or.inl rfl, h⟩ dX8_readsPaper_71
def wp_X8_readsPaper (I : II) (Q : Int32 → II → Prop) : Prop := (vp_in (nI 1330) 1372 ∧ ((¬ (I 316 (nI 1330).toNatClampNeg) = (nI 7) → (vp_in (I 315 13) 120 ∧ ((¬ (I 321 (I 315 13).toNatClampNeg) = (nI 100) → (wp_X8_readsPaper_49 Q (I 316 (nI 1330).toNatClampNeg) (nI 0) ((nI 1345) + (I 316 (nI 1330).toNatClampNeg)) I)) ∧ ((I 321 (I 315 13).toNatClampNeg) = (nI 100) → (wp_X8_readsPaper_49 Q (I 316 (nI 1330).toNatClampNeg) (nI 1) ((nI 1345) + (I 316 (nI 1330).toNatClampNeg)) I))))) ∧ ((I 316 (nI 1330).toNatClampNeg) = (nI 7) → (wp_X8_refuse (nI 3) I (fun r6 I5 => (isb r6 ∧ Q r6 I5))))))
set_option maxHeartbeats 4000000 in
set_option maxRecDepth 100000 in
theorem w_X8_readsPaper_0 {E : EE} {p : Program} {l : Launch} {e : Env} {s : State} {m : MethodId} {args : Array Value} {below : List Frame} {meth : Method} {c : Code} {Q : Int32 → II → Prop} (X : CX E p s m args meth c cX8_readsPaper 2 (some .boolean) RX8) : ∀ (I : II) (H : Heap) (locs : List Loc) (ls : Array Slot), wp_X8_readsPaper I Q → PP E s H locs I → lv_has ls 2 [(0, .ref (E.2.1 315))] → W p l e rmX8_readsPaper s m args below meth c H locs 0 0 (MQ below (va_Qi Q (BU E) E.2.2.2.1) args s 0 0 E.2.2.2.1) (F0 m 0 ls []) := by
  obtain ⟨⟨hx, hb, hml, hown, hts⟩, hr, hlk, hK, hST, hN⟩ := id X
  intro I H locs ls h hp hl
  unfold wp_X8_readsPaper at h
  refine lv_aload_n hx hb dX8_readsPaper_0 rfl (lv_at hl 0 rfl) ?_
  refine f_X8_7 X hp dX8_readsPaper_1 ?_
  refine lv_sipush (v := (nI 1330)) hx hb dX8_readsPaper_4 (by decide) ?_
  have hv1 := h.1
  have h := h.2
  refine al_i X hp ar_s316 hv1 dX8_readsPaper_7 ?_
  refine lv_istore_n (lv' := [(1, .int (I 316 (nI 1330).toNatClampNeg)), (0, .ref (E.2.1 315))]) hx hb dX8_readsPaper_8 rfl hl (by decide) rfl (fun ls hl => ?_)
  refine lv_iload_n hx hb dX8_readsPaper_9 rfl (lv_at hl 0 rfl) ?_
  refine lv_bipush (v := (nI 7)) hx hb dX8_readsPaper_10 (by decide) ?_
  refine lv_icmp_ne (tgt := 21) hx hb dX8_readsPaper_12 (by decide) (fun c2 => ?_) (fun c2 => ?_)
  · have h := h.1 c2
    refine lv_aload_n hx hb dX8_readsPaper_21 rfl (lv_at hl 1 rfl) ?_
    refine f_X8_7 X hp dX8_readsPaper_22 ?_
    refine lv_sipush (v := (nI 1345)) hx hb dX8_readsPaper_25 (by decide) ?_
    refine lv_iload_n hx hb dX8_readsPaper_28 rfl (lv_at hl 0 rfl) ?_
    refine lv_iadd hx hb dX8_readsPaper_29 ?_
    refine lv_aload_n hx hb dX8_readsPaper_30 rfl (lv_at hl 1 rfl) ?_
    refine f_X8_26 X hp dX8_readsPaper_31 ?_
    refine lv_aload_n hx hb dX8_readsPaper_34 rfl (lv_at hl 1 rfl) ?_
    refine f_X8_77 X hp dX8_readsPaper_35 ?_
    have hv3 := h.1
    have h := h.2
    refine al_i X hp ar_s321 hv3 dX8_readsPaper_38 ?_
    refine lv_bipush (v := (nI 100)) hx hb dX8_readsPaper_39 (by decide) ?_
    refine lv_icmp_ne (tgt := 48) hx hb dX8_readsPaper_41 (by decide) (fun c4 => ?_) (fun c4 => ?_)
    · have h := h.1 c4
      refine lv_iconst (v := (nI 0)) hx hb dX8_readsPaper_48 (by decide) ?_
      exact w_X8_readsPaper_49 X  _ _ _ _ _ _ _ h hp (lv_sub hl [1, 0] rfl)
    · have h := h.2 c4
      refine lv_iconst (v := (nI 1)) hx hb dX8_readsPaper_44 (by decide) ?_
      refine lv_goto (tgt := 49) hx hb dX8_readsPaper_45 (by decide) ?_
      exact w_X8_readsPaper_49 X  _ _ _ _ _ _ _ h hp (lv_sub hl [1, 0] rfl)
  · have h := h.2 c2
    refine lv_aload_n hx hb dX8_readsPaper_15 rfl (lv_at hl 1 rfl) ?_
    refine lv_iconst (v := (nI 3)) hx hb dX8_readsPaper_16 (by decide) ?_
    refine ki (kV (As := [.int (nI 3)]) (rest := []) X hp (C_X8_refuse  h) tw_ml_X8_90 vf_X8_refuse ⟨rfl, rfl, Nat.le_of_ble_eq_true rfl, Nat.le_of_ble_eq_true rfl⟩ (pr_rcv X hp (k := 315) (by decide) (ob_315 _) (q := (RX8, TX8, 18)) rfl) rfl hl.1 rfl (Nat.le_of_ble_eq_true rfl) dX8_readsPaper_17) hp (fun r6 I5 H locs h hp => ?_)
    exact rt_z X hp h dX8_readsPaper_20
set_option maxRecDepth 100000 in
theorem C_X8_readsPaper {E : EE} {l : Launch} {I : II} {Q : Int32 → II → Prop} (h : wp_X8_readsPaper I Q) : Met l yX8_readsPaper (Cond.code yX8_readsPaper cX8_readsPaper 2 (some .boolean) :: lwT) rmX8_readsPaper (va_Pc [.ref (E.2.1 315)] (PU E I)) (va_Qi Q (BU E) E.2.2.2.1) 0 0 E.2.2.2.1 :=
  ofWalk [.ref (E.2.1 315)] (by decide) tw_c_X8_readsPaper (Nat.le_of_ble_eq_true rfl) (fun p e s m below meth c ls X hp hl => w_X8_readsPaper_0 X _ _ _ _ h hp hl)
abbrev rmX8_isSort : Room := { frames := 1, cells := 0, slots := 0, locals := 20 }
theorem vf_X8_isSort : VF yX8_isSort RX8 cX8_isSort 1 (some .boolean) 0 := ⟨tw_in_X8, tw_im_X8_isSort, tw_se_X8_isSort, tw_c_X8_isSort, by decide, by decide, by decide +kernel⟩
def wp_X8_isSort (I : II) (Q : Int32 → II → Prop) : Prop := (((I 315 8) ≤ (I 315 13) → (Q (nI 0) I)) ∧ (¬ (I 315 8) ≤ (I 315 13) → (vp_in (I 315 13) 120 ∧ (wp_X8_kindOfLetter (I 321 (I 315 13).toNatClampNeg) I (fun r4 I3 => ((r4 ≤ 0 → (Q (nI 0) I3)) ∧ (¬ r4 ≤ 0 → (Q (nI 1) I3))))))))
set_option maxHeartbeats 4000000 in
set_option maxRecDepth 100000 in
theorem w_X8_isSort_0 {E : EE} {p : Program} {l : Launch} {e : Env} {s : State} {m : MethodId} {args : Array Value} {below : List Frame} {meth : Method} {c : Code} {Q : Int32 → II → Prop} (X : CX E p s m args meth c cX8_isSort 1 (some .boolean) RX8) : ∀ (I : II) (H : Heap) (locs : List Loc) (ls : Array Slot), wp_X8_isSort I Q → PP E s H locs I → lv_has ls 1 [(0, .ref (E.2.1 315))] → W p l e rmX8_isSort s m args below meth c H locs 0 0 (MQ below (va_Qi Q (BU E) E.2.2.2.1) args s 0 0 E.2.2.2.1) (F0 m 0 ls []) := by
  obtain ⟨⟨hx, hb, hml, hown, hts⟩, hr, hlk, hK, hST, hN⟩ := id X
  intro I H locs ls h hp hl
  unfold wp_X8_isSort at h
  refine lv_aload_n hx hb dX8_isSort_0 rfl (lv_at hl 0 rfl) ?_
  refine f_X8_77 X hp dX8_isSort_1 ?_
  refine lv_aload_n hx hb dX8_isSort_4 rfl (lv_at hl 0 rfl) ?_
  refine f_X8_73 X hp dX8_isSort_5 ?_
  refine lv_icmp_ge (tgt := 30) hx hb dX8_isSort_8 (by decide) (fun c1 => ?_) (fun c1 => ?_)
  · have h := h.1 c1
    refine lv_iconst (v := (nI 0)) hx hb dX8_isSort_30 (by decide) ?_
    exact rt_z X hp ⟨Or.inl rfl, h⟩ dX8_isSort_31
  · have h := h.2 c1
    refine lv_aload_n hx hb dX8_isSort_11 rfl (lv_at hl 0 rfl) ?_
    refine f_X8_26 X hp dX8_isSort_12 ?_
    refine lv_aload_n hx hb dX8_isSort_15 rfl (lv_at hl 0 rfl) ?_
    refine f_X8_77 X hp dX8_isSort_16 ?_
    have hv2 := h.1
    have h := h.2
    refine al_i X hp ar_s321 hv2 dX8_isSort_19 ?_
    refine ki (kS (As := [.int (I 321 (I 315 13).toNatClampNeg)]) (rest := []) X hp (C_X8_kindOfLetter  h) tw_ml_X8_106 sf_X8_kindOfLetter ⟨rfl, rfl, Nat.le_of_ble_eq_true rfl, Nat.le_of_ble_eq_true rfl⟩ rfl hl.1 rfl (Nat.le_of_ble_eq_true rfl) dX8_isSort_20) hp (fun r4 I3 H locs h hp => ?_)
    refine lv_if_le (tgt := 30) hx hb dX8_isSort_23 (by decide) (fun c5 => ?_) (fun c5 => ?_)
    · have h := h.1 c5
      refine lv_iconst (v := (nI 0)) hx hb dX8_isSort_30 (by decide) ?_
      exact rt_z X hp ⟨Or.inl rfl, h⟩ dX8_isSort_31
    · have h := h.2 c5
      refine lv_iconst (v := (nI 1)) hx hb dX8_isSort_26 (by decide) ?_
      refine lv_goto (tgt := 31) hx hb dX8_isSort_27 (by decide) ?_
      exact rt_z X hp ⟨Or.inr rfl, h⟩ dX8_isSort_31
set_option maxRecDepth 100000 in
theorem C_X8_isSort {E : EE} {l : Launch} {I : II} {Q : Int32 → II → Prop} (h : wp_X8_isSort I Q) : Met l yX8_isSort (Cond.code yX8_isSort cX8_isSort 1 (some .boolean) :: lwT) rmX8_isSort (va_Pc [.ref (E.2.1 315)] (PU E I)) (va_Qi Q (BU E) E.2.2.2.1) 0 0 E.2.2.2.1 :=
  ofWalk [.ref (E.2.1 315)] (by decide) tw_c_X8_isSort (Nat.le_of_ble_eq_true rfl) (fun p e s m below meth c ls X hp hl => w_X8_isSort_0 X _ _ _ _ h hp hl)
abbrev rmX8_reads : Room := { frames := 4, cells := 0, slots := 0, locals := 90 }
theorem vf_X8_reads : VF yX8_reads RX8 cX8_reads 2 (some .boolean) 0 := ⟨tw_in_X8, tw_im_X8_reads, tw_se_X8_reads, tw_c_X8_reads, by decide, by decide, by decide +kernel⟩
def wp_X8_reads_36 (Q : Int32 → II → Prop) (k2 : Int32 → II → Prop) (x1 : Int32) (v0 : Int32) (v1 : Int32) (I : II) : Prop := (vp_in v1 1372 ∧ ∀ I2 : II, I2 = su I 316 v1.toNatClampNeg v0 → (k2 (x1 + (nI 1)) I2))
set_option maxHeartbeats 4000000 in
set_option maxRecDepth 100000 in
theorem w_X8_reads_36 {E : EE} {p : Program} {l : Launch} {e : Env} {s : State} {m : MethodId} {args : Array Value} {below : List Frame} {meth : Method} {c : Code} {Q : Int32 → II → Prop} {k2 : Int32 → II → Prop} (X : CX E p s m args meth c cX8_reads 2 (some .boolean) RX8) (K2 : ∀ (x1 : Int32) (I : II) (H : Heap) (locs : List Loc) (ls : Array Slot), k2 x1 I → PP E s H locs I → lv_has ls 2 [(0, .ref (E.2.1 315)), (1, .int x1)] → W p l e rmX8_reads s m args below meth c H locs 0 0 (MQ below (va_Qi Q (BU E) E.2.2.2.1) args s 0 0 E.2.2.2.1) (F0 m 2 ls [])) : ∀ (x1 : Int32) (v0 : Int32) (v1 : Int32) (I : II) (H : Heap) (locs : List Loc) (ls : Array Slot), wp_X8_reads_36 Q k2 x1 v0 v1 I → PP E s H locs I → lv_has ls 2 [(0, .ref (E.2.1 315)), (1, .int x1)] → W p l e rmX8_reads s m args below meth c H locs 0 0 (MQ below (va_Qi Q (BU E) E.2.2.2.1) args s 0 0 E.2.2.2.1) (F0 m 36 ls [.int v0, .int v1, .ref (E.2.1 316)]) := by
  obtain ⟨⟨hx, hb, hml, hown, hts⟩, hr, hlk, hK, hST, hN⟩ := id X
  intro x1 v0 v1 I H locs ls h hp hl
  unfold wp_X8_reads_36 at h
  have hv1 := h.1
  have h := h.2
  refine as_i X hp ar_s316 hv1 dX8_reads_36 (fun H locs hp => ?_)
  obtain ⟨I2, e3⟩ : ∃ y, y = su I 316 v1.toNatClampNeg v0 := ⟨_, rfl⟩
  have hp : PP E s H locs I2 := by rw [e3]; exact hp
  have h := h I2 e3
  refine lv_iinc (v := (x1 + (nI 1))) (lv' := [(1, .int (x1 + (nI 1))), (0, .ref (E.2.1 315))]) hx hb dX8_reads_37 hl (k := 1) rfl rfl (by decide) rfl (fun ls hl => ?_)
  refine lv_goto (tgt := 2) hx hb dX8_reads_40 (by decide) ?_
  exact K2 _ _ _ _ _ h hp (lv_sub hl [1, 0] rfl)
def wp_X8_reads_2 (Q : Int32 → II → Prop) (k43 : II → Prop) : Nat → Int32 → II → Prop
  | 0, _, _ => False
  | n + 1, x1, I => (((nI 49) ≤ x1 → (k43 I)) ∧ (¬ (nI 49) ≤ x1 → (wp_X8_in x1.toInt64 (lN 22) (lN 28) I (fun r3 I2 => ((r3 = 0 → (wp_X8_reads_36 Q (fun x1 I => wp_X8_reads_2 Q k43 n x1 I) x1 (nI 0) ((nI 1323) + x1) I2)) ∧ (¬ r3 = 0 → (wp_X8_reads_36 Q (fun x1 I => wp_X8_reads_2 Q k43 n x1 I) x1 (-nI 1) ((nI 1323) + x1) I2)))))))
set_option maxHeartbeats 4000000 in
set_option maxRecDepth 100000 in
theorem w_X8_reads_2 {E : EE} {p : Program} {l : Launch} {e : Env} {s : State} {m : MethodId} {args : Array Value} {below : List Frame} {meth : Method} {c : Code} {Q : Int32 → II → Prop} {k43 : II → Prop} (X : CX E p s m args meth c cX8_reads 2 (some .boolean) RX8) (K43 : ∀ (I : II) (H : Heap) (locs : List Loc) (ls : Array Slot), k43 I → PP E s H locs I → lv_has ls 2 [(0, .ref (E.2.1 315))] → W p l e rmX8_reads s m args below meth c H locs 0 0 (MQ below (va_Qi Q (BU E) E.2.2.2.1) args s 0 0 E.2.2.2.1) (F0 m 43 ls [])) : ∀ (n : Nat) (x1 : Int32) (I : II) (H : Heap) (locs : List Loc) (ls : Array Slot), wp_X8_reads_2 Q k43 n x1 I → PP E s H locs I → lv_has ls 2 [(0, .ref (E.2.1 315)), (1, .int x1)] → W p l e rmX8_reads s m args below meth c H locs 0 0 (MQ below (va_Qi Q (BU E) E.2.2.2.1) args s 0 0 E.2.2.2.1) (F0 m 2 ls []) := by
  obtain ⟨⟨hx, hb, hml, hown, hts⟩, hr, hlk, hK, hST, hN⟩ := id X
  intro n
  induction n with
  | zero =>
    intro x1 I H locs ls h hp hl
    exact False.elim h
  | succ n ih =>
    intro x1 I H locs ls h hp hl
    rw [wp_X8_reads_2.eq_2] at h
    refine lv_iload_n hx hb dX8_reads_2 rfl (lv_at hl 1 rfl) ?_
    refine lv_bipush (v := (nI 49)) hx hb dX8_reads_3 (by decide) ?_
    refine lv_icmp_ge (tgt := 43) hx hb dX8_reads_5 (by decide) (fun c1 => ?_) (fun c1 => ?_)
    · have h := h.1 c1
      exact K43 _ _ _ _ h hp (lv_sub hl [0] rfl)
    · have h := h.2 c1
      refine lv_aload_n hx hb dX8_reads_8 rfl (lv_at hl 0 rfl) ?_
      refine f_X8_7 X hp dX8_reads_9 ?_
      refine lv_sipush (v := (nI 1323)) hx hb dX8_reads_12 (by decide) ?_
      refine lv_iload_n hx hb dX8_reads_15 rfl (lv_at hl 1 rfl) ?_
      refine lv_iadd hx hb dX8_reads_16 ?_
      refine lv_iload_n hx hb dX8_reads_17 rfl (lv_at hl 1 rfl) ?_
      refine lv_i2l (v := x1.toInt64) hx hb dX8_reads_18 rfl ?_
      refine lv_ldc2 (v := (lN 22)) hx hb hown (hts _ tw_kl_X8_109) dX8_reads_19 ?_
      refine lv_ldc2 (v := (lN 28)) hx hb hown (hts _ tw_kl_X8_111) dX8_reads_22 ?_
      refine ki (kS (As := [.long x1.toInt64, .long (lN 22), .long (lN 28)]) (rest := [.int ((nI 1323) + x1), .ref (E.2.1 316)]) X hp (C_X8_in  h) tw_ml_X8_45 sf_X8_in ⟨rfl, rfl, Nat.le_of_ble_eq_true rfl, Nat.le_of_ble_eq_true rfl⟩ rfl hl.1 rfl (Nat.le_of_ble_eq_true rfl) dX8_reads_25) hp (fun r3 I2 H locs h hp => ?_)
      refine lv_if_eq (tgt := 35) hx hb dX8_reads_28 (by decide) (fun c4 => ?_) (fun c4 => ?_)
      · have h := h.1 c4
        refine lv_iconst (v := (nI 0)) hx hb dX8_reads_35 (by decide) ?_
        exact w_X8_reads_36 X ih _ _ _ _ _ _ _ h hp (lv_sub hl [0, 1] rfl)
      · have h := h.2 c4
        refine lv_iconst (v := (-nI 1)) hx hb dX8_reads_31 (by decide) ?_
        refine lv_goto (tgt := 36) hx hb dX8_reads_32 (by decide) ?_
        exact w_X8_reads_36 X ih _ _ _ _ _ _ _ h hp (lv_sub hl [0, 1] rfl)
def wp_X8_reads_72 (Q : Int32 → II → Prop) (k91 : Int32 → II → Prop) : Nat → Int32 → II → Prop
  | 0, _, _ => False
  | n + 1, x1, I => ((x1 = 0 → (k91 x1 I)) ∧ (¬ x1 = 0 → (wp_X8_isSort I (fun r3 I2 => ((r3 = 0 → (k91 x1 I2)) ∧ (¬ r3 = 0 → (wp_X8_readsTeller I2 (fun r6 I5 => (wp_X8_reads_72 Q k91 n r6 I5)))))))))
set_option maxHeartbeats 4000000 in
set_option maxRecDepth 100000 in
theorem w_X8_reads_72 {E : EE} {p : Program} {l : Launch} {e : Env} {s : State} {m : MethodId} {args : Array Value} {below : List Frame} {meth : Method} {c : Code} {Q : Int32 → II → Prop} {k91 : Int32 → II → Prop} (X : CX E p s m args meth c cX8_reads 2 (some .boolean) RX8) (K91 : ∀ (x1 : Int32) (I : II) (H : Heap) (locs : List Loc) (ls : Array Slot), k91 x1 I → PP E s H locs I → lv_has ls 2 [(0, .ref (E.2.1 315)), (1, .int x1)] → W p l e rmX8_reads s m args below meth c H locs 0 0 (MQ below (va_Qi Q (BU E) E.2.2.2.1) args s 0 0 E.2.2.2.1) (F0 m 91 ls [])) : ∀ (n : Nat) (x1 : Int32) (I : II) (H : Heap) (locs : List Loc) (ls : Array Slot), wp_X8_reads_72 Q k91 n x1 I → PP E s H locs I → lv_has ls 2 [(0, .ref (E.2.1 315)), (1, .int x1)] → W p l e rmX8_reads s m args below meth c H locs 0 0 (MQ below (va_Qi Q (BU E) E.2.2.2.1) args s 0 0 E.2.2.2.1) (F0 m 72 ls []) := by
  obtain ⟨⟨hx, hb, hml, hown, hts⟩, hr, hlk, hK, hST, hN⟩ := id X
  intro n
  induction n with
  | zero =>
    intro x1 I H locs ls h hp hl
    exact False.elim h
  | succ n ih =>
    intro x1 I H locs ls h hp hl
    rw [wp_X8_reads_72.eq_2] at h
    refine lv_iload_n hx hb dX8_reads_72 rfl (lv_at hl 1 rfl) ?_
    refine lv_if_eq (tgt := 91) hx hb dX8_reads_73 (by decide) (fun c1 => ?_) (fun c1 => ?_)
    · have h := h.1 c1
      exact K91 _ _ _ _ _ h hp (lv_sub hl [0, 1] rfl)
    · have h := h.2 c1
      refine lv_aload_n hx hb dX8_reads_76 rfl (lv_at hl 0 rfl) ?_
      refine ki (kV (As := []) (rest := []) X hp (C_X8_isSort  h) tw_ml_X8_117 vf_X8_isSort ⟨rfl, rfl, Nat.le_of_ble_eq_true rfl, Nat.le_of_ble_eq_true rfl⟩ (pr_rcv X hp (k := 315) (by decide) (ob_315 _) (q := (RX8, TX8, 18)) rfl) rfl hl.1 rfl (Nat.le_of_ble_eq_true rfl) dX8_reads_77) hp (fun r3 I2 H locs h hp => ?_)
      refine lv_if_eq (tgt := 91) hx hb dX8_reads_80 (by decide) (fun c4 => ?_) (fun c4 => ?_)
      · have h := h.1 c4
        exact K91 _ _ _ _ _ h hp (lv_sub hl [0, 1] rfl)
      · have h := h.2 c4
        refine lv_aload_n hx hb dX8_reads_83 rfl (lv_at hl 0 rfl) ?_
        refine ki (kV (As := []) (rest := []) X hp (C_X8_readsTeller  h) tw_ml_X8_120 vf_X8_readsTeller ⟨rfl, rfl, Nat.le_of_ble_eq_true rfl, Nat.le_of_ble_eq_true rfl⟩ (pr_rcv X hp (k := 315) (by decide) (ob_315 _) (q := (RX8, TX8, 18)) rfl) rfl hl.1 rfl (Nat.le_of_ble_eq_true rfl) dX8_reads_84) hp (fun r6 I5 H locs h hp => ?_)
        refine lv_istore_n (lv' := [(1, .int r6), (0, .ref (E.2.1 315))]) hx hb dX8_reads_87 rfl hl (by decide) rfl (fun ls hl => ?_)
        refine lv_goto (tgt := 72) hx hb dX8_reads_88 (by decide) ?_
        exact ih _ _ _ _ _ h hp (lv_sub hl [1, 0] rfl)
def wp_X8_reads_113 (Q : Int32 → II → Prop) (k91 : Int32 → II → Prop) (I : II) : Prop := (wp_X8_readsPaper I (fun r2 I1 => (k91 r2 I1)))
set_option maxHeartbeats 4000000 in
set_option maxRecDepth 100000 in
theorem w_X8_reads_113 {E : EE} {p : Program} {l : Launch} {e : Env} {s : State} {m : MethodId} {args : Array Value} {below : List Frame} {meth : Method} {c : Code} {Q : Int32 → II → Prop} {k91 : Int32 → II → Prop} (X : CX E p s m args meth c cX8_reads 2 (some .boolean) RX8) (K91 : ∀ (x1 : Int32) (I : II) (H : Heap) (locs : List Loc) (ls : Array Slot), k91 x1 I → PP E s H locs I → lv_has ls 2 [(0, .ref (E.2.1 315)), (1, .int x1)] → W p l e rmX8_reads s m args below meth c H locs 0 0 (MQ below (va_Qi Q (BU E) E.2.2.2.1) args s 0 0 E.2.2.2.1) (F0 m 91 ls [])) : ∀ (I : II) (H : Heap) (locs : List Loc) (ls : Array Slot), wp_X8_reads_113 Q k91 I → PP E s H locs I → lv_has ls 2 [(0, .ref (E.2.1 315))] → W p l e rmX8_reads s m args below meth c H locs 0 0 (MQ below (va_Qi Q (BU E) E.2.2.2.1) args s 0 0 E.2.2.2.1) (F0 m 113 ls []) := by
  obtain ⟨⟨hx, hb, hml, hown, hts⟩, hr, hlk, hK, hST, hN⟩ := id X
  intro I H locs ls h hp hl
  unfold wp_X8_reads_113 at h
  refine lv_aload_n hx hb dX8_reads_113 rfl (lv_at hl 0 rfl) ?_
  refine ki (kV (As := []) (rest := []) X hp (C_X8_readsPaper  h) tw_ml_X8_123 vf_X8_readsPaper ⟨rfl, rfl, Nat.le_of_ble_eq_true rfl, Nat.le_of_ble_eq_true rfl⟩ (pr_rcv X hp (k := 315) (by decide) (ob_315 _) (q := (RX8, TX8, 18)) rfl) rfl hl.1 rfl (Nat.le_of_ble_eq_true rfl) dX8_reads_114) hp (fun r2 I1 H locs h hp => ?_)
  refine lv_istore_n (lv' := [(1, .int r2), (0, .ref (E.2.1 315))]) hx hb dX8_reads_117 rfl hl (by decide) rfl (fun ls hl => ?_)
  refine lv_goto (tgt := 91) hx hb dX8_reads_118 (by decide) ?_
  exact K91 _ _ _ _ _ h hp (lv_sub hl [1, 0] rfl)
def wp_X8_reads_91 (Q : Int32 → II → Prop) (k121 : Int32 → II → Prop) : Nat → Int32 → II → Prop
  | 0, _, _ => False
  | n + 1, x1, I => ((x1 = 0 → (k121 x1 I)) ∧ (¬ x1 = 0 → (wp_X8_isLetter (nI 100) I (fun r3 I2 => ((¬ r3 = 0 → (wp_X8_reads_113 Q (fun x1 I => wp_X8_reads_91 Q k121 n x1 I) I2)) ∧ (r3 = 0 → (wp_X8_isLetter (nI 112) I2 (fun r6 I5 => ((r6 = 0 → (k121 x1 I5)) ∧ (¬ r6 = 0 → (wp_X8_reads_113 Q (fun x1 I => wp_X8_reads_91 Q k121 n x1 I) I5)))))))))))
set_option maxHeartbeats 4000000 in
set_option maxRecDepth 100000 in
theorem w_X8_reads_91 {E : EE} {p : Program} {l : Launch} {e : Env} {s : State} {m : MethodId} {args : Array Value} {below : List Frame} {meth : Method} {c : Code} {Q : Int32 → II → Prop} {k121 : Int32 → II → Prop} (X : CX E p s m args meth c cX8_reads 2 (some .boolean) RX8) (K121 : ∀ (x1 : Int32) (I : II) (H : Heap) (locs : List Loc) (ls : Array Slot), k121 x1 I → PP E s H locs I → lv_has ls 2 [(0, .ref (E.2.1 315)), (1, .int x1)] → W p l e rmX8_reads s m args below meth c H locs 0 0 (MQ below (va_Qi Q (BU E) E.2.2.2.1) args s 0 0 E.2.2.2.1) (F0 m 121 ls [])) : ∀ (n : Nat) (x1 : Int32) (I : II) (H : Heap) (locs : List Loc) (ls : Array Slot), wp_X8_reads_91 Q k121 n x1 I → PP E s H locs I → lv_has ls 2 [(0, .ref (E.2.1 315)), (1, .int x1)] → W p l e rmX8_reads s m args below meth c H locs 0 0 (MQ below (va_Qi Q (BU E) E.2.2.2.1) args s 0 0 E.2.2.2.1) (F0 m 91 ls []) := by
  obtain ⟨⟨hx, hb, hml, hown, hts⟩, hr, hlk, hK, hST, hN⟩ := id X
  intro n
  induction n with
  | zero =>
    intro x1 I H locs ls h hp hl
    exact False.elim h
  | succ n ih =>
    intro x1 I H locs ls h hp hl
    rw [wp_X8_reads_91.eq_2] at h
    refine lv_iload_n hx hb dX8_reads_91 rfl (lv_at hl 1 rfl) ?_
    refine lv_if_eq (tgt := 121) hx hb dX8_reads_92 (by decide) (fun c1 => ?_) (fun c1 => ?_)
    · have h := h.1 c1
      exact K121 _ _ _ _ _ h hp (lv_sub hl [0, 1] rfl)
    · have h := h.2 c1
      refine lv_aload_n hx hb dX8_reads_95 rfl (lv_at hl 0 rfl) ?_
      refine lv_bipush (v := (nI 100)) hx hb dX8_reads_96 (by decide) ?_
      refine ki (kV (As := [.int (nI 100)]) (rest := []) X hp (C_X8_isLetter  h) tw_ml_X8_87 vf_X8_isLetter ⟨rfl, rfl, Nat.le_of_ble_eq_true rfl, Nat.le_of_ble_eq_true rfl⟩ (pr_rcv X hp (k := 315) (by decide) (ob_315 _) (q := (RX8, TX8, 18)) rfl) rfl hl.1 rfl (Nat.le_of_ble_eq_true rfl) dX8_reads_98) hp (fun r3 I2 H locs h hp => ?_)
      refine lv_if_ne (tgt := 113) hx hb dX8_reads_101 (by decide) (fun c4 => ?_) (fun c4 => ?_)
      · have h := h.1 c4
        exact w_X8_reads_113 X ih _ _ _ _ h hp (lv_sub hl [0] rfl)
      · have h := h.2 c4
        refine lv_aload_n hx hb dX8_reads_104 rfl (lv_at hl 0 rfl) ?_
        refine lv_bipush (v := (nI 112)) hx hb dX8_reads_105 (by decide) ?_
        refine ki (kV (As := [.int (nI 112)]) (rest := []) X hp (C_X8_isLetter  h) tw_ml_X8_87 vf_X8_isLetter ⟨rfl, rfl, Nat.le_of_ble_eq_true rfl, Nat.le_of_ble_eq_true rfl⟩ (pr_rcv X hp (k := 315) (by decide) (ob_315 _) (q := (RX8, TX8, 18)) rfl) rfl hl.1 rfl (Nat.le_of_ble_eq_true rfl) dX8_reads_107) hp (fun r6 I5 H locs h hp => ?_)
        refine lv_if_eq (tgt := 121) hx hb dX8_reads_110 (by decide) (fun c7 => ?_) (fun c7 => ?_)
        · have h := h.1 c7
          exact K121 _ _ _ _ _ h hp (lv_sub hl [0, 1] rfl)
        · have h := h.2 c7
          exact w_X8_reads_113 X ih _ _ _ _ h hp (lv_sub hl [0] rfl)
def wp_X8_reads_144 (Q : Int32 → II → Prop) (I : II) : Prop := (Q (nI 1) I)
set_option maxHeartbeats 4000000 in
set_option maxRecDepth 100000 in
theorem w_X8_reads_144 {E : EE} {p : Program} {l : Launch} {e : Env} {s : State} {m : MethodId} {args : Array Value} {below : List Frame} {meth : Method} {c : Code} {Q : Int32 → II → Prop} (X : CX E p s m args meth c cX8_reads 2 (some .boolean) RX8) : ∀ (I : II) (H : Heap) (locs : List Loc) (ls : Array Slot), wp_X8_reads_144 Q I → PP E s H locs I → lv_has ls 2 [] → W p l e rmX8_reads s m args below meth c H locs 0 0 (MQ below (va_Qi Q (BU E) E.2.2.2.1) args s 0 0 E.2.2.2.1) (F0 m 144 ls []) := by
  obtain ⟨⟨hx, hb, hml, hown, hts⟩, hr, hlk, hK, hST, hN⟩ := id X
  intro I H locs ls h hp hl
  unfold wp_X8_reads_144 at h
  refine lv_iconst (v := (nI 1)) hx hb dX8_reads_144 (by decide) ?_
  refine lv_goto (tgt := 149) hx hb dX8_reads_145 (by decide) ?_
  exact rt_z X hp ⟨Or.inr rfl, h⟩ dX8_reads_149
def wp_X8_reads_121 (Q : Int32 → II → Prop) (x1 : Int32) (I : II) : Prop := ((x1 = 0 → (Q (nI 0) I)) ∧ (¬ x1 = 0 → (((I 315 13) = (I 315 8) → (wp_X8_reads_144 Q I)) ∧ (¬ (I 315 13) = (I 315 8) → (wp_X8_refuse (nI 1) I (fun r4 I3 => ((r4 = 0 → (Q (nI 0) I3)) ∧ (¬ r4 = 0 → (wp_X8_reads_144 Q I3)))))))))
set_option maxHeartbeats 4000000 in
set_option maxRecDepth 100000 in
theorem w_X8_reads_121 {E : EE} {p : Program} {l : Launch} {e : Env} {s : State} {m : MethodId} {args : Array Value} {below : List Frame} {meth : Method} {c : Code} {Q : Int32 → II → Prop} (X : CX E p s m args meth c cX8_reads 2 (some .boolean) RX8) : ∀ (x1 : Int32) (I : II) (H : Heap) (locs : List Loc) (ls : Array Slot), wp_X8_reads_121 Q x1 I → PP E s H locs I → lv_has ls 2 [(0, .ref (E.2.1 315)), (1, .int x1)] → W p l e rmX8_reads s m args below meth c H locs 0 0 (MQ below (va_Qi Q (BU E) E.2.2.2.1) args s 0 0 E.2.2.2.1) (F0 m 121 ls []) := by
  obtain ⟨⟨hx, hb, hml, hown, hts⟩, hr, hlk, hK, hST, hN⟩ := id X
  intro x1 I H locs ls h hp hl
  unfold wp_X8_reads_121 at h
  refine lv_iload_n hx hb dX8_reads_121 rfl (lv_at hl 1 rfl) ?_
  refine lv_if_eq (tgt := 148) hx hb dX8_reads_122 (by decide) (fun c1 => ?_) (fun c1 => ?_)
  · have h := h.1 c1
    refine lv_iconst (v := (nI 0)) hx hb dX8_reads_148 (by decide) ?_
    exact rt_z X hp ⟨Or.inl rfl, h⟩ dX8_reads_149
  · have h := h.2 c1
    refine lv_aload_n hx hb dX8_reads_125 rfl (lv_at hl 0 rfl) ?_
    refine f_X8_77 X hp dX8_reads_126 ?_
    refine lv_aload_n hx hb dX8_reads_129 rfl (lv_at hl 0 rfl) ?_
    refine f_X8_73 X hp dX8_reads_130 ?_
    refine lv_icmp_eq (tgt := 144) hx hb dX8_reads_133 (by decide) (fun c2 => ?_) (fun c2 => ?_)
    · have h := h.1 c2
      exact w_X8_reads_144 X  _ _ _ _ h hp (lv_sub hl [] rfl)
    · have h := h.2 c2
      refine lv_aload_n hx hb dX8_reads_136 rfl (lv_at hl 0 rfl) ?_
      refine lv_iconst (v := (nI 1)) hx hb dX8_reads_137 (by decide) ?_
      refine ki (kV (As := [.int (nI 1)]) (rest := []) X hp (C_X8_refuse  h) tw_ml_X8_90 vf_X8_refuse ⟨rfl, rfl, Nat.le_of_ble_eq_true rfl, Nat.le_of_ble_eq_true rfl⟩ (pr_rcv X hp (k := 315) (by decide) (ob_315 _) (q := (RX8, TX8, 18)) rfl) rfl hl.1 rfl (Nat.le_of_ble_eq_true rfl) dX8_reads_138) hp (fun r4 I3 H locs h hp => ?_)
      refine lv_if_eq (tgt := 148) hx hb dX8_reads_141 (by decide) (fun c5 => ?_) (fun c5 => ?_)
      · have h := h.1 c5
        refine lv_iconst (v := (nI 0)) hx hb dX8_reads_148 (by decide) ?_
        exact rt_z X hp ⟨Or.inl rfl, h⟩ dX8_reads_149
      · have h := h.2 c5
        exact w_X8_reads_144 X  _ _ _ _ h hp (lv_sub hl [] rfl)
def wp_X8_reads (I : II) (Q : Int32 → II → Prop) : Prop := (∃ n163, wp_X8_reads_2 Q (fun I => (∀ I51 : II, I51 = su I 315 13 (nI 0) → (wp_X8_readsLaw I51 (fun r54 I53 => ((¬ r54 = 0 → (wp_X8_isSort I53 (fun r57 I56 => ((¬ r57 = 0 → (∃ n160, wp_X8_reads_72 Q (fun x1 I => (∃ n159, wp_X8_reads_91 Q (fun x1 I => (wp_X8_reads_121 Q x1 I)) n159 x1 I)) n160 (nI 1) I56)) ∧ (r57 = 0 → (wp_X8_refuse (nI 1) I56 (fun r162 I161 => (isb r162 ∧ Q r162 I161)))))))) ∧ (r54 = 0 → (Q (nI 0) I53))))))) n163 (nI 0) I)
set_option maxHeartbeats 4000000 in
set_option maxRecDepth 100000 in
theorem w_X8_reads_0 {E : EE} {p : Program} {l : Launch} {e : Env} {s : State} {m : MethodId} {args : Array Value} {below : List Frame} {meth : Method} {c : Code} {Q : Int32 → II → Prop} (X : CX E p s m args meth c cX8_reads 2 (some .boolean) RX8) : ∀ (I : II) (H : Heap) (locs : List Loc) (ls : Array Slot), wp_X8_reads I Q → PP E s H locs I → lv_has ls 2 [(0, .ref (E.2.1 315))] → W p l e rmX8_reads s m args below meth c H locs 0 0 (MQ below (va_Qi Q (BU E) E.2.2.2.1) args s 0 0 E.2.2.2.1) (F0 m 0 ls []) := by
  obtain ⟨⟨hx, hb, hml, hown, hts⟩, hr, hlk, hK, hST, hN⟩ := id X
  intro I H locs ls h hp hl
  unfold wp_X8_reads at h
  refine lv_iconst (v := (nI 0)) hx hb dX8_reads_0 (by decide) ?_
  refine lv_istore_n (lv' := [(1, .int (nI 0)), (0, .ref (E.2.1 315))]) hx hb dX8_reads_1 rfl hl (by decide) rfl (fun ls hl => ?_)
  obtain ⟨n163, h⟩ := h
  refine w_X8_reads_2 X ?_ n163 _ _ _ _ _ h hp (lv_sub hl [1, 0] rfl)
  · intro I H locs ls h hp hl
    refine lv_aload_n hx hb dX8_reads_43 rfl (lv_at hl 0 rfl) ?_
    refine lv_iconst (v := (nI 0)) hx hb dX8_reads_44 (by decide) ?_
    refine g_X8_77 X hp dX8_reads_45 (fun H locs hp => ?_)
    obtain ⟨I51, e52⟩ : ∃ y, y = su I 315 13 (nI 0) := ⟨_, rfl⟩
    have hp : PP E s H locs I51 := by rw [e52]; exact hp
    have h := h I51 e52
    refine lv_aload_n hx hb dX8_reads_48 rfl (lv_at hl 0 rfl) ?_
    refine ki (kV (As := []) (rest := []) X hp (C_X8_readsLaw  h) tw_ml_X8_113 vf_X8_readsLaw ⟨rfl, rfl, Nat.le_of_ble_eq_true rfl, Nat.le_of_ble_eq_true rfl⟩ (pr_rcv X hp (k := 315) (by decide) (ob_315 _) (q := (RX8, TX8, 18)) rfl) rfl hl.1 rfl (Nat.le_of_ble_eq_true rfl) dX8_reads_49) hp (fun r54 I53 H locs h hp => ?_)
    refine lv_if_ne (tgt := 57) hx hb dX8_reads_52 (by decide) (fun c55 => ?_) (fun c55 => ?_)
    · have h := h.1 c55
      refine lv_aload_n hx hb dX8_reads_57 rfl (lv_at hl 0 rfl) ?_
      refine ki (kV (As := []) (rest := []) X hp (C_X8_isSort  h) tw_ml_X8_117 vf_X8_isSort ⟨rfl, rfl, Nat.le_of_ble_eq_true rfl, Nat.le_of_ble_eq_true rfl⟩ (pr_rcv X hp (k := 315) (by decide) (ob_315 _) (q := (RX8, TX8, 18)) rfl) rfl hl.1 rfl (Nat.le_of_ble_eq_true rfl) dX8_reads_58) hp (fun r57 I56 H locs h hp => ?_)
      refine lv_if_ne (tgt := 70) hx hb dX8_reads_61 (by decide) (fun c58 => ?_) (fun c58 => ?_)
      · have h := h.1 c58
        refine lv_iconst (v := (nI 1)) hx hb dX8_reads_70 (by decide) ?_
        refine lv_istore_n (lv' := [(1, .int (nI 1)), (0, .ref (E.2.1 315))]) hx hb dX8_reads_71 rfl hl (by decide) rfl (fun ls hl => ?_)
        obtain ⟨n160, h⟩ := h
        refine w_X8_reads_72 X ?_ n160 _ _ _ _ _ h hp (lv_sub hl [1, 0] rfl)
        · intro x1 I H locs ls h hp hl
          obtain ⟨n159, h⟩ := h
          refine w_X8_reads_91 X ?_ n159 _ _ _ _ _ h hp (lv_sub hl [0, 1] rfl)
          · intro x1 I H locs ls h hp hl
            exact w_X8_reads_121 X  _ _ _ _ _ h hp (lv_sub hl [0, 1] rfl)
      · have h := h.2 c58
        refine lv_aload_n hx hb dX8_reads_64 rfl (lv_at hl 0 rfl) ?_
        refine lv_iconst (v := (nI 1)) hx hb dX8_reads_65 (by decide) ?_
        refine ki (kV (As := [.int (nI 1)]) (rest := []) X hp (C_X8_refuse  h) tw_ml_X8_90 vf_X8_refuse ⟨rfl, rfl, Nat.le_of_ble_eq_true rfl, Nat.le_of_ble_eq_true rfl⟩ (pr_rcv X hp (k := 315) (by decide) (ob_315 _) (q := (RX8, TX8, 18)) rfl) rfl hl.1 rfl (Nat.le_of_ble_eq_true rfl) dX8_reads_66) hp (fun r162 I161 H locs h hp => ?_)
        exact rt_z X hp h dX8_reads_69
    · have h := h.2 c55
      refine lv_iconst (v := (nI 0)) hx hb dX8_reads_55 (by decide) ?_
      exact rt_z X hp ⟨Or.inl rfl, h⟩ dX8_reads_56
set_option maxRecDepth 100000 in
theorem C_X8_reads {E : EE} {l : Launch} {I : II} {Q : Int32 → II → Prop} (h : wp_X8_reads I Q) : Met l yX8_reads (Cond.code yX8_reads cX8_reads 2 (some .boolean) :: lwT) rmX8_reads (va_Pc [.ref (E.2.1 315)] (PU E I)) (va_Qi Q (BU E) E.2.2.2.1) 0 0 E.2.2.2.1 :=
  ofWalk [.ref (E.2.1 315)] (by decide) tw_c_X8_reads (Nat.le_of_ble_eq_true rfl) (fun p e s m below meth c ls X hp hl => w_X8_reads_0 X _ _ _ _ h hp hl)

abbrev rmX8_away : Room := { frames := 7, cells := 0, slots := 0, locals := 164 }
theorem vf_X8_away : VF yX8_away RX8 cX8_away 14 (some .long) 2 := ⟨tw_in_X8, tw_im_X8_away, tw_se_X8_away, tw_c_X8_away, by decide, by decide, by decide +kernel⟩
def wp_X8_away_132 (Q : Int64 → II → Prop) (k72 : Int32 → Int32 → Int64 → Int64 → Int32 → Int32 → Int64 → Int32 → Int32 → II → Prop) (x1 : Int32) (x2 : Int32) (x3 : Int64) (x5 : Int64) (x7 : Int32) (x8 : Int32) (x9 : Int64) (x12 : Int32) (v0 : Int32) (v1 : Int32) (I : II) : Prop := (k72 x1 x2 x3 x5 x7 x8 x9 (v1 ||| v0) (x12 + (nI 1)) I)
set_option maxHeartbeats 4000000 in
set_option maxRecDepth 100000 in
theorem w_X8_away_132 {E : EE} {p : Program} {l : Launch} {e : Env} {s : State} {m : MethodId} {args : Array Value} {below : List Frame} {meth : Method} {c : Code} {Q : Int64 → II → Prop} {k72 : Int32 → Int32 → Int64 → Int64 → Int32 → Int32 → Int64 → Int32 → Int32 → II → Prop} (X : CX E p s m args meth c cX8_away 14 (some .long) RX8) (K72 : ∀ (x1 : Int32) (x2 : Int32) (x3 : Int64) (x5 : Int64) (x7 : Int32) (x8 : Int32) (x9 : Int64) (x11 : Int32) (x12 : Int32) (I : II) (H : Heap) (locs : List Loc) (ls : Array Slot), k72 x1 x2 x3 x5 x7 x8 x9 x11 x12 I → PP E s H locs I → lv_has ls 14 [(0, .ref (E.2.1 315)), (1, .int x1), (2, .int x2), (3, .long x3), (5, .long x5), (7, .int x7), (8, .int x8), (9, .long x9), (11, .int x11), (12, .int x12)] → W p l e rmX8_away s m args below meth c H locs 0 0 (MQ below (va_Ql Q (BU E) E.2.2.2.1) args s 0 0 E.2.2.2.1) (F0 m 72 ls [])) : ∀ (x1 : Int32) (x2 : Int32) (x3 : Int64) (x5 : Int64) (x7 : Int32) (x8 : Int32) (x9 : Int64) (x12 : Int32) (v0 : Int32) (v1 : Int32) (I : II) (H : Heap) (locs : List Loc) (ls : Array Slot), wp_X8_away_132 Q k72 x1 x2 x3 x5 x7 x8 x9 x12 v0 v1 I → PP E s H locs I → lv_has ls 14 [(0, .ref (E.2.1 315)), (1, .int x1), (2, .int x2), (3, .long x3), (5, .long x5), (7, .int x7), (8, .int x8), (9, .long x9), (12, .int x12)] → W p l e rmX8_away s m args below meth c H locs 0 0 (MQ below (va_Ql Q (BU E) E.2.2.2.1) args s 0 0 E.2.2.2.1) (F0 m 132 ls [.int v0, .int v1]) := by
  obtain ⟨⟨hx, hb, hml, hown, hts⟩, hr, hlk, hK, hST, hN⟩ := id X
  intro x1 x2 x3 x5 x7 x8 x9 x12 v0 v1 I H locs ls h hp hl
  unfold wp_X8_away_132 at h
  refine lv_ior hx hb dX8_away_132 ?_
  refine lv_istore (lv' := [(11, .int (v1 ||| v0)), (0, .ref (E.2.1 315)), (1, .int x1), (2, .int x2), (3, .long x3), (5, .long x5), (7, .int x7), (8, .int x8), (9, .long x9), (12, .int x12)]) hx hb dX8_away_133 hl (by decide) rfl (fun ls hl => ?_)
  refine lv_iinc (v := (x12 + (nI 1))) (lv' := [(12, .int (x12 + (nI 1))), (11, .int (v1 ||| v0)), (0, .ref (E.2.1 315)), (1, .int x1), (2, .int x2), (3, .long x3), (5, .long x5), (7, .int x7), (8, .int x8), (9, .long x9)]) hx hb dX8_away_135 hl (k := 9) rfl rfl (by decide) rfl (fun ls hl => ?_)
  refine lv_goto (tgt := 72) hx hb dX8_away_138 (by decide) ?_
  exact K72 _ _ _ _ _ _ _ _ _ _ _ _ _ h hp (lv_sub hl [2, 3, 4, 5, 6, 7, 8, 9, 1, 0] rfl)
def wp_X8_away_101 (Q : Int64 → II → Prop) (k72 : Int32 → Int32 → Int64 → Int64 → Int32 → Int32 → Int64 → Int32 → Int32 → II → Prop) (x1 : Int32) (x2 : Int32) (x3 : Int64) (x5 : Int64) (x7 : Int32) (x8 : Int32) (x11 : Int32) (x12 : Int32) (xs0 : Int64) (xs1 : Int64) (I : II) : Prop := (wp_X8_has x8 x12 I (fun r2 I1 => ((r2 = 0 → (wp_X8_away_132 Q k72 x1 x2 x3 x5 x7 x8 (xs1 * xs0) x12 (nI 0) x11 I1)) ∧ (¬ r2 = 0 → (vp_in ((nI 8) + x12) 1372 ∧ (wp_X8_away_132 Q k72 x1 x2 x3 x5 x7 x8 (xs1 * xs0) x12 ((nI 1) <<< ((I1 316 ((nI 8) + x12).toNatClampNeg) &&& 31)) x11 I1))))))
set_option maxHeartbeats 4000000 in
set_option maxRecDepth 100000 in
theorem w_X8_away_101 {E : EE} {p : Program} {l : Launch} {e : Env} {s : State} {m : MethodId} {args : Array Value} {below : List Frame} {meth : Method} {c : Code} {Q : Int64 → II → Prop} {k72 : Int32 → Int32 → Int64 → Int64 → Int32 → Int32 → Int64 → Int32 → Int32 → II → Prop} (X : CX E p s m args meth c cX8_away 14 (some .long) RX8) (K72 : ∀ (x1 : Int32) (x2 : Int32) (x3 : Int64) (x5 : Int64) (x7 : Int32) (x8 : Int32) (x9 : Int64) (x11 : Int32) (x12 : Int32) (I : II) (H : Heap) (locs : List Loc) (ls : Array Slot), k72 x1 x2 x3 x5 x7 x8 x9 x11 x12 I → PP E s H locs I → lv_has ls 14 [(0, .ref (E.2.1 315)), (1, .int x1), (2, .int x2), (3, .long x3), (5, .long x5), (7, .int x7), (8, .int x8), (9, .long x9), (11, .int x11), (12, .int x12)] → W p l e rmX8_away s m args below meth c H locs 0 0 (MQ below (va_Ql Q (BU E) E.2.2.2.1) args s 0 0 E.2.2.2.1) (F0 m 72 ls [])) : ∀ (x1 : Int32) (x2 : Int32) (x3 : Int64) (x5 : Int64) (x7 : Int32) (x8 : Int32) (x11 : Int32) (x12 : Int32) (xs0 : Int64) (xs1 : Int64) (I : II) (H : Heap) (locs : List Loc) (ls : Array Slot), wp_X8_away_101 Q k72 x1 x2 x3 x5 x7 x8 x11 x12 xs0 xs1 I → PP E s H locs I → lv_has ls 14 [(0, .ref (E.2.1 315)), (1, .int x1), (2, .int x2), (3, .long x3), (5, .long x5), (7, .int x7), (8, .int x8), (11, .int x11), (12, .int x12)] → W p l e rmX8_away s m args below meth c H locs 0 0 (MQ below (va_Ql Q (BU E) E.2.2.2.1) args s 0 0 E.2.2.2.1) (F0 m 101 ls [.long xs0, .long xs1]) := by
  obtain ⟨⟨hx, hb, hml, hown, hts⟩, hr, hlk, hK, hST, hN⟩ := id X
  intro x1 x2 x3 x5 x7 x8 x11 x12 xs0 xs1 I H locs ls h hp hl
  unfold wp_X8_away_101 at h
  refine lv_lmul hx hb dX8_away_101 ?_
  refine lv_lstore (lv' := [(9, .long (xs1 * xs0)), (0, .ref (E.2.1 315)), (1, .int x1), (2, .int x2), (3, .long x3), (5, .long x5), (7, .int x7), (8, .int x8), (11, .int x11), (12, .int x12)]) hx hb dX8_away_102 hl (by decide) rfl (fun ls hl => ?_)
  refine lv_iload hx hb dX8_away_104 (lv_at hl 8 rfl) ?_
  refine lv_iload hx hb dX8_away_106 (lv_at hl 7 rfl) ?_
  refine lv_iload hx hb dX8_away_108 (lv_at hl 9 rfl) ?_
  refine ki (kS (As := [.int x8, .int x12]) (rest := [.int x11]) X hp (C_X8_has  h) tw_ml_X8_150 sf_X8_has ⟨rfl, rfl, Nat.le_of_ble_eq_true rfl, Nat.le_of_ble_eq_true rfl⟩ rfl hl.1 rfl (Nat.le_of_ble_eq_true rfl) dX8_away_110) hp (fun r2 I1 H locs h hp => ?_)
  refine lv_if_eq (tgt := 131) hx hb dX8_away_113 (by decide) (fun c3 => ?_) (fun c3 => ?_)
  · have h := h.1 c3
    refine lv_iconst (v := (nI 0)) hx hb dX8_away_131 (by decide) ?_
    exact w_X8_away_132 X K72 _ _ _ _ _ _ _ _ _ _ _ _ _ _ h hp (lv_sub hl [1, 2, 3, 4, 5, 6, 7, 0, 9] rfl)
  · have h := h.2 c3
    refine lv_iconst (v := (nI 1)) hx hb dX8_away_116 (by decide) ?_
    refine lv_aload_n hx hb dX8_away_117 rfl (lv_at hl 1 rfl) ?_
    refine f_X8_7 X hp dX8_away_118 ?_
    refine lv_bipush (v := (nI 8)) hx hb dX8_away_121 (by decide) ?_
    refine lv_iload hx hb dX8_away_123 (lv_at hl 9 rfl) ?_
    refine lv_iadd hx hb dX8_away_125 ?_
    have hv4 := h.1
    have h := h.2
    refine al_i X hp ar_s316 hv4 dX8_away_126 ?_
    refine lv_ishl hx hb dX8_away_127 ?_
    refine lv_goto (tgt := 132) hx hb dX8_away_128 (by decide) ?_
    exact w_X8_away_132 X K72 _ _ _ _ _ _ _ _ _ _ _ _ _ _ h hp (lv_sub hl [1, 2, 3, 4, 5, 6, 7, 0, 9] rfl)
def wp_X8_away_72 (Q : Int64 → II → Prop) (k141 : Int32 → Int32 → Int64 → Int64 → Int32 → Int32 → Int64 → Int32 → II → Prop) : Nat → Int32 → Int32 → Int64 → Int64 → Int32 → Int32 → Int64 → Int32 → Int32 → II → Prop
  | 0, _, _, _, _, _, _, _, _, _, _ => False
  | n + 1, x1, x2, x3, x5, x7, x8, x9, x11, x12, I => ((x7 ≤ x12 → (k141 x1 x2 x3 x5 x7 x8 x9 x11 I)) ∧ (¬ x7 ≤ x12 → (wp_X8_has x8 x12 I (fun r3 I2 => ((r3 = 0 → (wp_X8_away_101 Q (fun x1 x2 x3 x5 x7 x8 x9 x11 x12 I => wp_X8_away_72 Q k141 n x1 x2 x3 x5 x7 x8 x9 x11 x12 I) x1 x2 x3 x5 x7 x8 x11 x12 ((nI 10) - x1).toInt64 x9 I2)) ∧ (¬ r3 = 0 → (wp_X8_away_101 Q (fun x1 x2 x3 x5 x7 x8 x9 x11 x12 I => wp_X8_away_72 Q k141 n x1 x2 x3 x5 x7 x8 x9 x11 x12 I) x1 x2 x3 x5 x7 x8 x11 x12 x1.toInt64 x9 I2)))))))
set_option maxHeartbeats 4000000 in
set_option maxRecDepth 100000 in
theorem w_X8_away_72 {E : EE} {p : Program} {l : Launch} {e : Env} {s : State} {m : MethodId} {args : Array Value} {below : List Frame} {meth : Method} {c : Code} {Q : Int64 → II → Prop} {k141 : Int32 → Int32 → Int64 → Int64 → Int32 → Int32 → Int64 → Int32 → II → Prop} (X : CX E p s m args meth c cX8_away 14 (some .long) RX8) (K141 : ∀ (x1 : Int32) (x2 : Int32) (x3 : Int64) (x5 : Int64) (x7 : Int32) (x8 : Int32) (x9 : Int64) (x11 : Int32) (I : II) (H : Heap) (locs : List Loc) (ls : Array Slot), k141 x1 x2 x3 x5 x7 x8 x9 x11 I → PP E s H locs I → lv_has ls 14 [(0, .ref (E.2.1 315)), (1, .int x1), (2, .int x2), (3, .long x3), (5, .long x5), (7, .int x7), (8, .int x8), (9, .long x9), (11, .int x11)] → W p l e rmX8_away s m args below meth c H locs 0 0 (MQ below (va_Ql Q (BU E) E.2.2.2.1) args s 0 0 E.2.2.2.1) (F0 m 141 ls [])) : ∀ (n : Nat) (x1 : Int32) (x2 : Int32) (x3 : Int64) (x5 : Int64) (x7 : Int32) (x8 : Int32) (x9 : Int64) (x11 : Int32) (x12 : Int32) (I : II) (H : Heap) (locs : List Loc) (ls : Array Slot), wp_X8_away_72 Q k141 n x1 x2 x3 x5 x7 x8 x9 x11 x12 I → PP E s H locs I → lv_has ls 14 [(0, .ref (E.2.1 315)), (1, .int x1), (2, .int x2), (3, .long x3), (5, .long x5), (7, .int x7), (8, .int x8), (9, .long x9), (11, .int x11), (12, .int x12)] → W p l e rmX8_away s m args below meth c H locs 0 0 (MQ below (va_Ql Q (BU E) E.2.2.2.1) args s 0 0 E.2.2.2.1) (F0 m 72 ls []) := by
  obtain ⟨⟨hx, hb, hml, hown, hts⟩, hr, hlk, hK, hST, hN⟩ := id X
  intro n
  induction n with
  | zero =>
    intro x1 x2 x3 x5 x7 x8 x9 x11 x12 I H locs ls h hp hl
    exact False.elim h
  | succ n ih =>
    intro x1 x2 x3 x5 x7 x8 x9 x11 x12 I H locs ls h hp hl
    rw [wp_X8_away_72.eq_2] at h
    refine lv_iload hx hb dX8_away_72 (lv_at hl 9 rfl) ?_
    refine lv_iload hx hb dX8_away_74 (lv_at hl 5 rfl) ?_
    refine lv_icmp_ge (tgt := 141) hx hb dX8_away_76 (by decide) (fun c1 => ?_) (fun c1 => ?_)
    · have h := h.1 c1
      exact K141 _ _ _ _ _ _ _ _ _ _ _ _ h hp (lv_sub hl [0, 1, 2, 3, 4, 5, 6, 7, 8] rfl)
    · have h := h.2 c1
      refine lv_lload hx hb dX8_away_79 (lv_at hl 7 rfl) ?_
      refine lv_iload hx hb dX8_away_81 (lv_at hl 6 rfl) ?_
      refine lv_iload hx hb dX8_away_83 (lv_at hl 9 rfl) ?_
      refine ki (kS (As := [.int x8, .int x12]) (rest := [.long x9]) X hp (C_X8_has  h) tw_ml_X8_150 sf_X8_has ⟨rfl, rfl, Nat.le_of_ble_eq_true rfl, Nat.le_of_ble_eq_true rfl⟩ rfl hl.1 rfl (Nat.le_of_ble_eq_true rfl) dX8_away_85) hp (fun r3 I2 H locs h hp => ?_)
      refine lv_if_eq (tgt := 96) hx hb dX8_away_88 (by decide) (fun c4 => ?_) (fun c4 => ?_)
      · have h := h.1 c4
        refine lv_bipush (v := (nI 10)) hx hb dX8_away_96 (by decide) ?_
        refine lv_iload_n hx hb dX8_away_98 rfl (lv_at hl 1 rfl) ?_
        refine lv_isub hx hb dX8_away_99 ?_
        refine lv_i2l (v := ((nI 10) - x1).toInt64) hx hb dX8_away_100 rfl ?_
        exact w_X8_away_101 X ih _ _ _ _ _ _ _ _ _ _ _ _ _ _ h hp (lv_sub hl [0, 1, 2, 3, 4, 5, 6, 8, 9] rfl)
      · have h := h.2 c4
        refine lv_iload_n hx hb dX8_away_91 rfl (lv_at hl 1 rfl) ?_
        refine lv_i2l (v := x1.toInt64) hx hb dX8_away_92 rfl ?_
        refine lv_goto (tgt := 101) hx hb dX8_away_93 (by decide) ?_
        exact w_X8_away_101 X ih _ _ _ _ _ _ _ _ _ _ _ _ _ _ h hp (lv_sub hl [0, 1, 2, 3, 4, 5, 6, 8, 9] rfl)
def wp_X8_away_186 (Q : Int64 → II → Prop) (k54 : Int32 → Int32 → Int64 → Int64 → Int32 → Int32 → II → Prop) (x1 : Int32) (x2 : Int32) (x5 : Int64) (x7 : Int32) (x8 : Int32) (x9 : Int64) (xs0 : Int64) (xs1 : Int64) (I : II) : Prop := (k54 x1 x2 (xs1 + xs0) (x5 + x9) x7 (x8 + (nI 1)) I)
set_option maxHeartbeats 4000000 in
set_option maxRecDepth 100000 in
theorem w_X8_away_186 {E : EE} {p : Program} {l : Launch} {e : Env} {s : State} {m : MethodId} {args : Array Value} {below : List Frame} {meth : Method} {c : Code} {Q : Int64 → II → Prop} {k54 : Int32 → Int32 → Int64 → Int64 → Int32 → Int32 → II → Prop} (X : CX E p s m args meth c cX8_away 14 (some .long) RX8) (K54 : ∀ (x1 : Int32) (x2 : Int32) (x3 : Int64) (x5 : Int64) (x7 : Int32) (x8 : Int32) (I : II) (H : Heap) (locs : List Loc) (ls : Array Slot), k54 x1 x2 x3 x5 x7 x8 I → PP E s H locs I → lv_has ls 14 [(0, .ref (E.2.1 315)), (1, .int x1), (2, .int x2), (3, .long x3), (5, .long x5), (7, .int x7), (8, .int x8)] → W p l e rmX8_away s m args below meth c H locs 0 0 (MQ below (va_Ql Q (BU E) E.2.2.2.1) args s 0 0 E.2.2.2.1) (F0 m 54 ls [])) : ∀ (x1 : Int32) (x2 : Int32) (x5 : Int64) (x7 : Int32) (x8 : Int32) (x9 : Int64) (xs0 : Int64) (xs1 : Int64) (I : II) (H : Heap) (locs : List Loc) (ls : Array Slot), wp_X8_away_186 Q k54 x1 x2 x5 x7 x8 x9 xs0 xs1 I → PP E s H locs I → lv_has ls 14 [(0, .ref (E.2.1 315)), (1, .int x1), (2, .int x2), (5, .long x5), (7, .int x7), (8, .int x8), (9, .long x9)] → W p l e rmX8_away s m args below meth c H locs 0 0 (MQ below (va_Ql Q (BU E) E.2.2.2.1) args s 0 0 E.2.2.2.1) (F0 m 186 ls [.long xs0, .long xs1]) := by
  obtain ⟨⟨hx, hb, hml, hown, hts⟩, hr, hlk, hK, hST, hN⟩ := id X
  intro x1 x2 x5 x7 x8 x9 xs0 xs1 I H locs ls h hp hl
  unfold wp_X8_away_186 at h
  refine lv_ladd hx hb dX8_away_186 ?_
  refine lv_lstore_n (lv' := [(3, .long (xs1 + xs0)), (0, .ref (E.2.1 315)), (1, .int x1), (2, .int x2), (5, .long x5), (7, .int x7), (8, .int x8), (9, .long x9)]) hx hb dX8_away_187 rfl hl (by decide) rfl (fun ls hl => ?_)
  refine lv_lload hx hb dX8_away_188 (lv_at hl 4 rfl) ?_
  refine lv_lload hx hb dX8_away_190 (lv_at hl 7 rfl) ?_
  refine lv_ladd hx hb dX8_away_192 ?_
  refine lv_lstore (lv' := [(5, .long (x5 + x9)), (3, .long (xs1 + xs0)), (0, .ref (E.2.1 315)), (1, .int x1), (2, .int x2), (7, .int x7), (8, .int x8), (9, .long x9)]) hx hb dX8_away_193 hl (by decide) rfl (fun ls hl => ?_)
  refine lv_iinc (v := (x8 + (nI 1))) (lv' := [(8, .int (x8 + (nI 1))), (5, .long (x5 + x9)), (3, .long (xs1 + xs0)), (0, .ref (E.2.1 315)), (1, .int x1), (2, .int x2), (7, .int x7), (9, .long x9)]) hx hb dX8_away_195 hl (k := 6) rfl rfl (by decide) rfl (fun ls hl => ?_)
  refine lv_goto (tgt := 54) hx hb dX8_away_198 (by decide) ?_
  exact K54 _ _ _ _ _ _ _ _ _ _ h hp (lv_sub hl [3, 4, 5, 2, 1, 6, 0] rfl)
def wp_X8_away_54 (Q : Int64 → II → Prop) (k201 : Int32 → Int64 → Int64 → II → Prop) : Nat → Int32 → Int32 → Int64 → Int64 → Int32 → Int32 → II → Prop
  | 0, _, _, _, _, _, _, _ => False
  | n + 1, x1, x2, x3, x5, x7, x8, I => ((((nI 1) <<< (x7 &&& 31)) ≤ x8 → (k201 x2 x3 x5 I)) ∧ (¬ ((nI 1) <<< (x7 &&& 31)) ≤ x8 → (∃ n61, wp_X8_away_72 Q (fun x1 x2 x3 x5 x7 x8 x9 x11 I => (wp_X8_leaveOut x11 I (fun I52 => (wp_X8_bits x8 I52 (fun r55 I54 => (wp_X8_passes (nI 1323) (x7 - r55) I54 (fun I56 => (vp_in (nI 1328) 1372 ∧ (vp_in (nI 5) 1372 ∧ ((¬ (I56 316 (nI 1328).toNatClampNeg) = (I56 316 (nI 5).toNatClampNeg) → (wp_X8_away_186 Q (fun x1 x2 x3 x5 x7 x8 I => wp_X8_away_54 Q k201 n x1 x2 x3 x5 x7 x8 I) x1 x2 x5 x7 x8 x9 (lN 0) x3 I56)) ∧ ((I56 316 (nI 1328).toNatClampNeg) = (I56 316 (nI 5).toNatClampNeg) → (wp_X8_away_186 Q (fun x1 x2 x3 x5 x7 x8 I => wp_X8_away_54 Q k201 n x1 x2 x3 x5 x7 x8 I) x1 x2 x5 x7 x8 x9 x9 x3 I56)))))))))))) n61 x1 x2 x3 x5 x7 x8 (lN 1) (nI 0) (nI 0) I)))
set_option maxHeartbeats 4000000 in
set_option maxRecDepth 100000 in
theorem w_X8_away_54 {E : EE} {p : Program} {l : Launch} {e : Env} {s : State} {m : MethodId} {args : Array Value} {below : List Frame} {meth : Method} {c : Code} {Q : Int64 → II → Prop} {k201 : Int32 → Int64 → Int64 → II → Prop} (X : CX E p s m args meth c cX8_away 14 (some .long) RX8) (K201 : ∀ (x2 : Int32) (x3 : Int64) (x5 : Int64) (I : II) (H : Heap) (locs : List Loc) (ls : Array Slot), k201 x2 x3 x5 I → PP E s H locs I → lv_has ls 14 [(2, .int x2), (3, .long x3), (5, .long x5)] → W p l e rmX8_away s m args below meth c H locs 0 0 (MQ below (va_Ql Q (BU E) E.2.2.2.1) args s 0 0 E.2.2.2.1) (F0 m 201 ls [])) : ∀ (n : Nat) (x1 : Int32) (x2 : Int32) (x3 : Int64) (x5 : Int64) (x7 : Int32) (x8 : Int32) (I : II) (H : Heap) (locs : List Loc) (ls : Array Slot), wp_X8_away_54 Q k201 n x1 x2 x3 x5 x7 x8 I → PP E s H locs I → lv_has ls 14 [(0, .ref (E.2.1 315)), (1, .int x1), (2, .int x2), (3, .long x3), (5, .long x5), (7, .int x7), (8, .int x8)] → W p l e rmX8_away s m args below meth c H locs 0 0 (MQ below (va_Ql Q (BU E) E.2.2.2.1) args s 0 0 E.2.2.2.1) (F0 m 54 ls []) := by
  obtain ⟨⟨hx, hb, hml, hown, hts⟩, hr, hlk, hK, hST, hN⟩ := id X
  intro n
  induction n with
  | zero =>
    intro x1 x2 x3 x5 x7 x8 I H locs ls h hp hl
    exact False.elim h
  | succ n ih =>
    intro x1 x2 x3 x5 x7 x8 I H locs ls h hp hl
    rw [wp_X8_away_54.eq_2] at h
    refine lv_iload hx hb dX8_away_54 (lv_at hl 6 rfl) ?_
    refine lv_iconst (v := (nI 1)) hx hb dX8_away_56 (by decide) ?_
    refine lv_iload hx hb dX8_away_57 (lv_at hl 5 rfl) ?_
    refine lv_ishl hx hb dX8_away_59 ?_
    refine lv_icmp_ge (tgt := 201) hx hb dX8_away_60 (by decide) (fun c1 => ?_) (fun c1 => ?_)
    · have h := h.1 c1
      exact K201 _ _ _ _ _ _ _ h hp (lv_sub hl [2, 3, 4] rfl)
    · have h := h.2 c1
      refine lv_lconst (v := (lN 1)) hx hb dX8_away_63 (by decide) ?_
      refine lv_lstore (lv' := [(9, .long (lN 1)), (0, .ref (E.2.1 315)), (1, .int x1), (2, .int x2), (3, .long x3), (5, .long x5), (7, .int x7), (8, .int x8)]) hx hb dX8_away_64 hl (by decide) rfl (fun ls hl => ?_)
      refine lv_iconst (v := (nI 0)) hx hb dX8_away_66 (by decide) ?_
      refine lv_istore (lv' := [(11, .int (nI 0)), (9, .long (lN 1)), (0, .ref (E.2.1 315)), (1, .int x1), (2, .int x2), (3, .long x3), (5, .long x5), (7, .int x7), (8, .int x8)]) hx hb dX8_away_67 hl (by decide) rfl (fun ls hl => ?_)
      refine lv_iconst (v := (nI 0)) hx hb dX8_away_69 (by decide) ?_
      refine lv_istore (lv' := [(12, .int (nI 0)), (11, .int (nI 0)), (9, .long (lN 1)), (0, .ref (E.2.1 315)), (1, .int x1), (2, .int x2), (3, .long x3), (5, .long x5), (7, .int x7), (8, .int x8)]) hx hb dX8_away_70 hl (by decide) rfl (fun ls hl => ?_)
      obtain ⟨n61, h⟩ := h
      refine w_X8_away_72 X ?_ n61 _ _ _ _ _ _ _ _ _ _ _ _ _ h hp (lv_sub hl [3, 4, 5, 6, 7, 8, 9, 2, 1, 0] rfl)
      · intro x1 x2 x3 x5 x7 x8 x9 x11 I H locs ls h hp hl
        refine lv_aload_n hx hb dX8_away_141 rfl (lv_at hl 0 rfl) ?_
        refine lv_iload hx hb dX8_away_142 (lv_at hl 8 rfl) ?_
        refine kv (kV (As := [.int x11]) (rest := []) X hp (C_X8_leaveOut  h) tw_ml_X8_232 vf_X8_leaveOut ⟨rfl, rfl, Nat.le_of_ble_eq_true rfl, Nat.le_of_ble_eq_true rfl⟩ (pr_rcv X hp (k := 315) (by decide) (ob_315 _) (q := (RX8, TX8, 18)) rfl) rfl hl.1 rfl (Nat.le_of_ble_eq_true rfl) dX8_away_144) hp (fun I52 H locs h hp => ?_)
        refine lv_aload_n hx hb dX8_away_147 rfl (lv_at hl 0 rfl) ?_
        refine lv_sipush (v := (nI 1323)) hx hb dX8_away_148 (by decide) ?_
        refine lv_iload hx hb dX8_away_151 (lv_at hl 5 rfl) ?_
        refine lv_iload hx hb dX8_away_153 (lv_at hl 6 rfl) ?_
        refine ki (kS (As := [.int x8]) (rest := [.int x7, .int (nI 1323), .ref (E.2.1 315)]) X hp (C_X8_bits  h) tw_ml_X8_220 sf_X8_bits ⟨rfl, rfl, Nat.le_of_ble_eq_true rfl, Nat.le_of_ble_eq_true rfl⟩ rfl hl.1 rfl (Nat.le_of_ble_eq_true rfl) dX8_away_155) hp (fun r55 I54 H locs h hp => ?_)
        refine lv_isub hx hb dX8_away_158 ?_
        refine kv (kV (As := [.int (nI 1323), .int (x7 - r55)]) (rest := []) X hp (C_X8_passes  h) tw_ml_X8_194 vf_X8_passes ⟨rfl, rfl, Nat.le_of_ble_eq_true rfl, Nat.le_of_ble_eq_true rfl⟩ (pr_rcv X hp (k := 315) (by decide) (ob_315 _) (q := (RX8, TX8, 18)) rfl) rfl hl.1 rfl (Nat.le_of_ble_eq_true rfl) dX8_away_159) hp (fun I56 H locs h hp => ?_)
        refine lv_lload_n hx hb dX8_away_162 rfl (lv_at hl 3 rfl) ?_
        refine lv_aload_n hx hb dX8_away_163 rfl (lv_at hl 0 rfl) ?_
        refine f_X8_7 X hp dX8_away_164 ?_
        refine lv_sipush (v := (nI 1328)) hx hb dX8_away_167 (by decide) ?_
        have hv58 := h.1
        have h := h.2
        refine al_i X hp ar_s316 hv58 dX8_away_170 ?_
        refine lv_aload_n hx hb dX8_away_171 rfl (lv_at hl 0 rfl) ?_
        refine f_X8_7 X hp dX8_away_172 ?_
        refine lv_iconst (v := (nI 5)) hx hb dX8_away_175 (by decide) ?_
        have hv59 := h.1
        have h := h.2
        refine al_i X hp ar_s316 hv59 dX8_away_176 ?_
        refine lv_icmp_ne (tgt := 185) hx hb dX8_away_177 (by decide) (fun c60 => ?_) (fun c60 => ?_)
        · have h := h.1 c60
          refine lv_lconst (v := (lN 0)) hx hb dX8_away_185 (by decide) ?_
          exact w_X8_away_186 X ih _ _ _ _ _ _ _ _ _ _ _ _ h hp (lv_sub hl [0, 1, 2, 4, 5, 6, 7] rfl)
        · have h := h.2 c60
          refine lv_lload hx hb dX8_away_180 (lv_at hl 7 rfl) ?_
          refine lv_goto (tgt := 186) hx hb dX8_away_182 (by decide) ?_
          exact w_X8_away_186 X ih _ _ _ _ _ _ _ _ _ _ _ _ h hp (lv_sub hl [0, 1, 2, 4, 5, 6, 7] rfl)
def wp_X8_away_208 (Q : Int64 → II → Prop) (k233 : Int32 → Int64 → Int64 → Int64 → II → Prop) : Nat → Int32 → Int64 → Int64 → Int64 → Int64 → II → Prop
  | 0, _, _, _, _, _, _ => False
  | n + 1, x2, x3, x5, x8, x10, I => (((lg_cmp x10 (lN 0)) = 0 → (k233 x2 x3 x5 x8 I)) ∧ (¬ (lg_cmp x10 (lN 0)) = 0 → (¬ x10 = 0 ∧ (wp_X8_away_208 Q k233 n x2 x3 x5 x10 (x8 - x8 / x10 * x10) I))))
set_option maxHeartbeats 4000000 in
set_option maxRecDepth 100000 in
theorem w_X8_away_208 {E : EE} {p : Program} {l : Launch} {e : Env} {s : State} {m : MethodId} {args : Array Value} {below : List Frame} {meth : Method} {c : Code} {Q : Int64 → II → Prop} {k233 : Int32 → Int64 → Int64 → Int64 → II → Prop} (X : CX E p s m args meth c cX8_away 14 (some .long) RX8) (K233 : ∀ (x2 : Int32) (x3 : Int64) (x5 : Int64) (x8 : Int64) (I : II) (H : Heap) (locs : List Loc) (ls : Array Slot), k233 x2 x3 x5 x8 I → PP E s H locs I → lv_has ls 14 [(2, .int x2), (3, .long x3), (5, .long x5), (8, .long x8)] → W p l e rmX8_away s m args below meth c H locs 0 0 (MQ below (va_Ql Q (BU E) E.2.2.2.1) args s 0 0 E.2.2.2.1) (F0 m 233 ls [])) : ∀ (n : Nat) (x2 : Int32) (x3 : Int64) (x5 : Int64) (x8 : Int64) (x10 : Int64) (I : II) (H : Heap) (locs : List Loc) (ls : Array Slot), wp_X8_away_208 Q k233 n x2 x3 x5 x8 x10 I → PP E s H locs I → lv_has ls 14 [(2, .int x2), (3, .long x3), (5, .long x5), (8, .long x8), (10, .long x10)] → W p l e rmX8_away s m args below meth c H locs 0 0 (MQ below (va_Ql Q (BU E) E.2.2.2.1) args s 0 0 E.2.2.2.1) (F0 m 208 ls []) := by
  obtain ⟨⟨hx, hb, hml, hown, hts⟩, hr, hlk, hK, hST, hN⟩ := id X
  intro n
  induction n with
  | zero =>
    intro x2 x3 x5 x8 x10 I H locs ls h hp hl
    exact False.elim h
  | succ n ih =>
    intro x2 x3 x5 x8 x10 I H locs ls h hp hl
    rw [wp_X8_away_208.eq_2] at h
    refine lv_lload hx hb dX8_away_208 (lv_at hl 4 rfl) ?_
    refine lv_lconst (v := (lN 0)) hx hb dX8_away_210 (by decide) ?_
    refine W.lcmp hx hb dX8_away_211 ?_
    refine lv_if_eq (tgt := 233) hx hb dX8_away_212 (by decide) (fun c1 => ?_) (fun c1 => ?_)
    · have h := h.1 c1
      exact K233 _ _ _ _ _ _ _ _ h hp (lv_sub hl [0, 1, 2, 3] rfl)
    · have h := h.2 c1
      refine lv_lload hx hb dX8_away_215 (lv_at hl 3 rfl) ?_
      refine lv_lload hx hb dX8_away_217 (lv_at hl 4 rfl) ?_
      have hz2 := h.1
      have h := h.2
      refine lv_lrem hx hb dX8_away_219 hz2 ?_
      refine lv_lstore (lv' := [(12, .long (x8 - x8 / x10 * x10)), (2, .int x2), (3, .long x3), (5, .long x5), (8, .long x8), (10, .long x10)]) hx hb dX8_away_220 hl (by decide) rfl (fun ls hl => ?_)
      refine lv_lload hx hb dX8_away_222 (lv_at hl 5 rfl) ?_
      refine lv_lstore (lv' := [(8, .long x10), (12, .long (x8 - x8 / x10 * x10)), (2, .int x2), (3, .long x3), (5, .long x5), (10, .long x10)]) hx hb dX8_away_224 hl (by decide) rfl (fun ls hl => ?_)
      refine lv_lload hx hb dX8_away_226 (lv_at hl 1 rfl) ?_
      refine lv_lstore (lv' := [(10, .long (x8 - x8 / x10 * x10)), (8, .long x10), (12, .long (x8 - x8 / x10 * x10)), (2, .int x2), (3, .long x3), (5, .long x5)]) hx hb dX8_away_228 hl (by decide) rfl (fun ls hl => ?_)
      refine lv_goto (tgt := 208) hx hb dX8_away_230 (by decide) ?_
      exact ih _ _ _ _ _ _ _ _ _ h hp (lv_sub hl [3, 4, 5, 1, 0] rfl)
def wp_X8_away (x1 : Int32) (x2 : Int32) (I : II) (Q : Int64 → II → Prop) : Prop := ((¬ (I 315 1) = 0 → (wp_X8_in x1.toInt64 (lN 0) (lN 10) I (fun r3 I2 => ((r3 = 0 → (Q (-lN 1000001) I2)) ∧ (¬ r3 = 0 → (wp_X8_in x2.toInt64 (lN 0) (lN 1) I2 (fun r6 I5 => ((¬ r6 = 0 → (vp_in (nI 7) 1372 ∧ (∃ n113, wp_X8_away_54 Q (fun x2 x3 x5 I => (∃ n112, wp_X8_away_208 Q (fun x2 x3 x5 x8 I => ((¬ x2 = 0 → (¬ x8 = 0 ∧ (Q (x5 / x8) I))) ∧ (x2 = 0 → (¬ x8 = 0 ∧ (Q (x3 / x8) I))))) n112 x2 x3 x5 x3 x5 I)) n113 x1 x2 (lN 0) (lN 0) (I5 316 (nI 7).toNatClampNeg) (nI 0) I5))) ∧ (r6 = 0 → (Q (-lN 1000001) I5)))))))))) ∧ ((I 315 1) = 0 → (Q (-lN 1000002) I)))
set_option maxHeartbeats 4000000 in
set_option maxRecDepth 100000 in
theorem w_X8_away_0 {E : EE} {p : Program} {l : Launch} {e : Env} {s : State} {m : MethodId} {args : Array Value} {below : List Frame} {meth : Method} {c : Code} {Q : Int64 → II → Prop} (X : CX E p s m args meth c cX8_away 14 (some .long) RX8) : ∀ (x1 : Int32) (x2 : Int32) (I : II) (H : Heap) (locs : List Loc) (ls : Array Slot), wp_X8_away x1 x2 I Q → PP E s H locs I → lv_has ls 14 [(0, .ref (E.2.1 315)), (1, .int x1), (2, .int x2)] → W p l e rmX8_away s m args below meth c H locs 0 0 (MQ below (va_Ql Q (BU E) E.2.2.2.1) args s 0 0 E.2.2.2.1) (F0 m 0 ls []) := by
  obtain ⟨⟨hx, hb, hml, hown, hts⟩, hr, hlk, hK, hST, hN⟩ := id X
  intro x1 x2 I H locs ls h hp hl
  unfold wp_X8_away at h
  refine lv_aload_n hx hb dX8_away_0 rfl (lv_at hl 0 rfl) ?_
  refine f_X8_137 X hp dX8_away_1 ?_
  refine lv_if_ne (tgt := 11) hx hb dX8_away_4 (by decide) (fun c1 => ?_) (fun c1 => ?_)
  · have h := h.1 c1
    refine lv_iload_n hx hb dX8_away_11 rfl (lv_at hl 1 rfl) ?_
    refine lv_i2l (v := x1.toInt64) hx hb dX8_away_12 rfl ?_
    refine lv_lconst (v := (lN 0)) hx hb dX8_away_13 (by decide) ?_
    refine lv_ldc2 (v := (lN 10)) hx hb hown (hts _ tw_kl_X8_237) dX8_away_14 ?_
    refine ki (kS (As := [.long x1.toInt64, .long (lN 0), .long (lN 10)]) (rest := []) X hp (C_X8_in  h) tw_ml_X8_45 sf_X8_in ⟨rfl, rfl, Nat.le_of_ble_eq_true rfl, Nat.le_of_ble_eq_true rfl⟩ rfl hl.1 rfl (Nat.le_of_ble_eq_true rfl) dX8_away_17) hp (fun r3 I2 H locs h hp => ?_)
    refine lv_if_eq (tgt := 33) hx hb dX8_away_20 (by decide) (fun c4 => ?_) (fun c4 => ?_)
    · have h := h.1 c4
      refine lv_ldc2 (v := (-lN 1000001)) hx hb hown (hts _ tw_kl_X8_239) dX8_away_33 ?_
      exact rt_l X hp h dX8_away_36
    · have h := h.2 c4
      refine lv_iload_n hx hb dX8_away_23 rfl (lv_at hl 2 rfl) ?_
      refine lv_i2l (v := x2.toInt64) hx hb dX8_away_24 rfl ?_
      refine lv_lconst (v := (lN 0)) hx hb dX8_away_25 (by decide) ?_
      refine lv_lconst (v := (lN 1)) hx hb dX8_away_26 (by decide) ?_
      refine ki (kS (As := [.long x2.toInt64, .long (lN 0), .long (lN 1)]) (rest := []) X hp (C_X8_in  h) tw_ml_X8_45 sf_X8_in ⟨rfl, rfl, Nat.le_of_ble_eq_true rfl, Nat.le_of_ble_eq_true rfl⟩ rfl hl.1 rfl (Nat.le_of_ble_eq_true rfl) dX8_away_27) hp (fun r6 I5 H locs h hp => ?_)
      refine lv_if_ne (tgt := 37) hx hb dX8_away_30 (by decide) (fun c7 => ?_) (fun c7 => ?_)
      · have h := h.1 c7
        refine lv_lconst (v := (lN 0)) hx hb dX8_away_37 (by decide) ?_
        refine lv_lstore_n (lv' := [(3, .long (lN 0)), (0, .ref (E.2.1 315)), (1, .int x1), (2, .int x2)]) hx hb dX8_away_38 rfl hl (by decide) rfl (fun ls hl => ?_)
        refine lv_lconst (v := (lN 0)) hx hb dX8_away_39 (by decide) ?_
        refine lv_lstore (lv' := [(5, .long (lN 0)), (3, .long (lN 0)), (0, .ref (E.2.1 315)), (1, .int x1), (2, .int x2)]) hx hb dX8_away_40 hl (by decide) rfl (fun ls hl => ?_)
        refine lv_aload_n hx hb dX8_away_42 rfl (lv_at hl 2 rfl) ?_
        refine f_X8_7 X hp dX8_away_43 ?_
        refine lv_bipush (v := (nI 7)) hx hb dX8_away_46 (by decide) ?_
        have hv8 := h.1
        have h := h.2
        refine al_i X hp ar_s316 hv8 dX8_away_48 ?_
        refine lv_istore (lv' := [(7, .int (I5 316 (nI 7).toNatClampNeg)), (5, .long (lN 0)), (3, .long (lN 0)), (0, .ref (E.2.1 315)), (1, .int x1), (2, .int x2)]) hx hb dX8_away_49 hl (by decide) rfl (fun ls hl => ?_)
        refine lv_iconst (v := (nI 0)) hx hb dX8_away_51 (by decide) ?_
        refine lv_istore (lv' := [(8, .int (nI 0)), (7, .int (I5 316 (nI 7).toNatClampNeg)), (5, .long (lN 0)), (3, .long (lN 0)), (0, .ref (E.2.1 315)), (1, .int x1), (2, .int x2)]) hx hb dX8_away_52 hl (by decide) rfl (fun ls hl => ?_)
        obtain ⟨n113, h⟩ := h
        refine w_X8_away_54 X ?_ n113 _ _ _ _ _ _ _ _ _ _ h hp (lv_sub hl [4, 5, 6, 3, 2, 1, 0] rfl)
        · intro x2 x3 x5 I H locs ls h hp hl
          refine lv_lload_n hx hb dX8_away_201 rfl (lv_at hl 1 rfl) ?_
          refine lv_lstore (lv' := [(8, .long x3), (2, .int x2), (3, .long x3), (5, .long x5)]) hx hb dX8_away_202 hl (by decide) rfl (fun ls hl => ?_)
          refine lv_lload hx hb dX8_away_204 (lv_at hl 3 rfl) ?_
          refine lv_lstore (lv' := [(10, .long x5), (8, .long x3), (2, .int x2), (3, .long x3), (5, .long x5)]) hx hb dX8_away_206 hl (by decide) rfl (fun ls hl => ?_)
          obtain ⟨n112, h⟩ := h
          refine w_X8_away_208 X ?_ n112 _ _ _ _ _ _ _ _ _ h hp (lv_sub hl [2, 3, 4, 1, 0] rfl)
          · intro x2 x3 x5 x8 I H locs ls h hp hl
            refine lv_iload_n hx hb dX8_away_233 rfl (lv_at hl 0 rfl) ?_
            refine lv_if_ne (tgt := 244) hx hb dX8_away_234 (by decide) (fun c109 => ?_) (fun c109 => ?_)
            · have h := h.1 c109
              refine lv_lload hx hb dX8_away_244 (lv_at hl 2 rfl) ?_
              refine lv_lload hx hb dX8_away_246 (lv_at hl 3 rfl) ?_
              have hz110 := h.1
              have h := h.2
              refine lv_ldiv hx hb dX8_away_248 hz110 ?_
              exact rt_l X hp h dX8_away_249
            · have h := h.2 c109
              refine lv_lload_n hx hb dX8_away_237 rfl (lv_at hl 1 rfl) ?_
              refine lv_lload hx hb dX8_away_238 (lv_at hl 3 rfl) ?_
              have hz111 := h.1
              have h := h.2
              refine lv_ldiv hx hb dX8_away_240 hz111 ?_
              refine lv_goto (tgt := 249) hx hb dX8_away_241 (by decide) ?_
              exact rt_l X hp h dX8_away_249
      · have h := h.2 c7
        refine lv_ldc2 (v := (-lN 1000001)) hx hb hown (hts _ tw_kl_X8_239) dX8_away_33 ?_
        exact rt_l X hp h dX8_away_36
  · have h := h.2 c1
    refine lv_ldc2 (v := (-lN 1000002)) hx hb hown (hts _ tw_kl_X8_235) dX8_away_7 ?_
    exact rt_l X hp h dX8_away_10
set_option maxRecDepth 100000 in
theorem C_X8_away {E : EE} {l : Launch} {x1 : Int32} {x2 : Int32} {I : II} {Q : Int64 → II → Prop} (h : wp_X8_away x1 x2 I Q) : Met l yX8_away (Cond.code yX8_away cX8_away 14 (some .long) :: lwT) rmX8_away (va_Pc [.ref (E.2.1 315), .int x1, .int x2] (PU E I)) (va_Ql Q (BU E) E.2.2.2.1) 0 0 E.2.2.2.1 :=
  ofWalk [.ref (E.2.1 315), .int x1, .int x2] (by decide) tw_c_X8_away (Nat.le_of_ble_eq_true rfl) (fun p e s m below meth c ls X hp hl => w_X8_away_0 X _ _ _ _ _ _ h hp hl)
abbrev rmX8_drawn : Room := { frames := 6, cells := 0, slots := 0, locals := 141 }
theorem vf_X8_drawn : VF yX8_drawn RX8 cX8_drawn 7 (some .int) 3 := ⟨tw_in_X8, tw_im_X8_drawn, tw_se_X8_drawn, tw_c_X8_drawn, by decide, by decide, by decide +kernel⟩
def wp_X8_drawn_123 (Q : Int32 → II → Prop) (k59 : Int32 → Int32 → Int64 → Int32 → II → Prop) (x1 : Int32) (x3 : Int32) (x4 : Int64) (x6 : Int32) (I : II) : Prop := (wp_X8_pass (nI 1323) I (fun r2 I1 => (k59 x1 x3 x4 (x6 + (nI 1)) I1)))
set_option maxHeartbeats 4000000 in
set_option maxRecDepth 100000 in
theorem w_X8_drawn_123 {E : EE} {p : Program} {l : Launch} {e : Env} {s : State} {m : MethodId} {args : Array Value} {below : List Frame} {meth : Method} {c : Code} {Q : Int32 → II → Prop} {k59 : Int32 → Int32 → Int64 → Int32 → II → Prop} (X : CX E p s m args meth c cX8_drawn 7 (some .int) RX8) (K59 : ∀ (x1 : Int32) (x3 : Int32) (x4 : Int64) (x6 : Int32) (I : II) (H : Heap) (locs : List Loc) (ls : Array Slot), k59 x1 x3 x4 x6 I → PP E s H locs I → lv_has ls 7 [(0, .ref (E.2.1 315)), (1, .int x1), (3, .int x3), (4, .long x4), (6, .int x6)] → W p l e rmX8_drawn s m args below meth c H locs 0 0 (MQ below (va_Qi Q (BU E) E.2.2.2.1) args s 0 0 E.2.2.2.1) (F0 m 59 ls [])) : ∀ (x1 : Int32) (x3 : Int32) (x4 : Int64) (x6 : Int32) (I : II) (H : Heap) (locs : List Loc) (ls : Array Slot), wp_X8_drawn_123 Q k59 x1 x3 x4 x6 I → PP E s H locs I → lv_has ls 7 [(0, .ref (E.2.1 315)), (1, .int x1), (3, .int x3), (4, .long x4), (6, .int x6)] → W p l e rmX8_drawn s m args below meth c H locs 0 0 (MQ below (va_Qi Q (BU E) E.2.2.2.1) args s 0 0 E.2.2.2.1) (F0 m 123 ls []) := by
  obtain ⟨⟨hx, hb, hml, hown, hts⟩, hr, hlk, hK, hST, hN⟩ := id X
  intro x1 x3 x4 x6 I H locs ls h hp hl
  unfold wp_X8_drawn_123 at h
  refine lv_aload_n hx hb dX8_drawn_123 rfl (lv_at hl 0 rfl) ?_
  refine lv_sipush (v := (nI 1323)) hx hb dX8_drawn_124 (by decide) ?_
  refine ki (kV (As := [.int (nI 1323)]) (rest := []) X hp (C_X8_pass  h) tw_ml_X8_167 vf_X8_pass ⟨rfl, rfl, Nat.le_of_ble_eq_true rfl, Nat.le_of_ble_eq_true rfl⟩ (pr_rcv X hp (k := 315) (by decide) (ob_315 _) (q := (RX8, TX8, 18)) rfl) rfl hl.1 rfl (Nat.le_of_ble_eq_true rfl) dX8_drawn_127) hp (fun r2 I1 H locs h hp => ?_)
  refine lv_pop hx hb dX8_drawn_130 rfl ?_
  refine lv_iinc (v := (x6 + (nI 1))) (lv' := [(6, .int (x6 + (nI 1))), (0, .ref (E.2.1 315)), (1, .int x1), (3, .int x3), (4, .long x4)]) hx hb dX8_drawn_131 hl (k := 4) rfl rfl (by decide) rfl (fun ls hl => ?_)
  refine lv_goto (tgt := 59) hx hb dX8_drawn_134 (by decide) ?_
  exact K59 _ _ _ _ _ _ _ _ h hp (lv_sub hl [1, 2, 3, 4, 0] rfl)
def wp_X8_drawn_110 (Q : Int32 → II → Prop) (k59 : Int32 → Int32 → Int64 → Int32 → II → Prop) (x1 : Int32) (x3 : Int32) (x4 : Int64) (x6 : Int32) (v0 : Int32) (v1 : Int32) (I : II) : Prop := (¬ (lN 30) = 0 ∧ (wp_X8_comes v1 v0 ((x4 - x4 / (lN 30) * (lN 30)).toInt32 + (nI 1)) I (fun r3 I2 => (wp_X8_drawn_123 Q k59 x1 x3 x4 x6 I2))))
set_option maxHeartbeats 4000000 in
set_option maxRecDepth 100000 in
theorem w_X8_drawn_110 {E : EE} {p : Program} {l : Launch} {e : Env} {s : State} {m : MethodId} {args : Array Value} {below : List Frame} {meth : Method} {c : Code} {Q : Int32 → II → Prop} {k59 : Int32 → Int32 → Int64 → Int32 → II → Prop} (X : CX E p s m args meth c cX8_drawn 7 (some .int) RX8) (K59 : ∀ (x1 : Int32) (x3 : Int32) (x4 : Int64) (x6 : Int32) (I : II) (H : Heap) (locs : List Loc) (ls : Array Slot), k59 x1 x3 x4 x6 I → PP E s H locs I → lv_has ls 7 [(0, .ref (E.2.1 315)), (1, .int x1), (3, .int x3), (4, .long x4), (6, .int x6)] → W p l e rmX8_drawn s m args below meth c H locs 0 0 (MQ below (va_Qi Q (BU E) E.2.2.2.1) args s 0 0 E.2.2.2.1) (F0 m 59 ls [])) : ∀ (x1 : Int32) (x3 : Int32) (x4 : Int64) (x6 : Int32) (v0 : Int32) (v1 : Int32) (I : II) (H : Heap) (locs : List Loc) (ls : Array Slot), wp_X8_drawn_110 Q k59 x1 x3 x4 x6 v0 v1 I → PP E s H locs I → lv_has ls 7 [(0, .ref (E.2.1 315)), (1, .int x1), (3, .int x3), (4, .long x4), (6, .int x6)] → W p l e rmX8_drawn s m args below meth c H locs 0 0 (MQ below (va_Qi Q (BU E) E.2.2.2.1) args s 0 0 E.2.2.2.1) (F0 m 110 ls [.int v0, .int v1, .ref (E.2.1 315)]) := by
  obtain ⟨⟨hx, hb, hml, hown, hts⟩, hr, hlk, hK, hST, hN⟩ := id X
  intro x1 x3 x4 x6 v0 v1 I H locs ls h hp hl
  unfold wp_X8_drawn_110 at h
  refine lv_lload hx hb dX8_drawn_110 (lv_at hl 3 rfl) ?_
  refine lv_ldc2 (v := (lN 30)) hx hb hown (hts _ tw_kl_X8_181) dX8_drawn_112 ?_
  have hz1 := h.1
  have h := h.2
  refine lv_lrem hx hb dX8_drawn_115 hz1 ?_
  refine lv_l2i (v := (x4 - x4 / (lN 30) * (lN 30)).toInt32) hx hb dX8_drawn_116 rfl ?_
  refine lv_iconst (v := (nI 1)) hx hb dX8_drawn_117 (by decide) ?_
  refine lv_iadd hx hb dX8_drawn_118 ?_
  refine ki (kV (As := [.int v1, .int v0, .int ((x4 - x4 / (lN 30) * (lN 30)).toInt32 + (nI 1))]) (rest := []) X hp (C_X8_comes  h) tw_ml_X8_183 vf_X8_comes ⟨rfl, rfl, Nat.le_of_ble_eq_true rfl, Nat.le_of_ble_eq_true rfl⟩ (pr_rcv X hp (k := 315) (by decide) (ob_315 _) (q := (RX8, TX8, 18)) rfl) rfl hl.1 rfl (Nat.le_of_ble_eq_true rfl) dX8_drawn_119) hp (fun r3 I2 H locs h hp => ?_)
  refine lv_pop hx hb dX8_drawn_122 rfl ?_
  exact w_X8_drawn_123 X K59 _ _ _ _ _ _ _ _ h hp (lv_sub hl [0, 1, 2, 3, 4] rfl)
def wp_X8_drawn_59 (Q : Int32 → II → Prop) (k137 : Int32 → II → Prop) : Nat → Int32 → Int32 → Int64 → Int32 → II → Prop
  | 0, _, _, _, _, _ => False
  | n + 1, x1, x3, x4, x6, I => ((x1 ≤ x6 → (k137 x3 I)) ∧ (¬ x1 ≤ x6 → (¬ (lN 2147483647) = 0 ∧ (vp_in (nI 1330) 1372 ∧ (((nI 7) ≤ (I 316 (nI 1330).toNatClampNeg) → (wp_X8_drawn_123 Q (fun x1 x3 x4 x6 I => wp_X8_drawn_59 Q k137 n x1 x3 x4 x6 I) x1 x3 ((x4 * (lN 16807)) - (x4 * (lN 16807)) / (lN 2147483647) * (lN 2147483647)) x6 I)) ∧ (¬ (nI 7) ≤ (I 316 (nI 1330).toNatClampNeg) → (¬ (lN 3) = 0 ∧ ((¬ (lg_cmp (((x4 * (lN 16807)) - (x4 * (lN 16807)) / (lN 2147483647) * (lN 2147483647)) - ((x4 * (lN 16807)) - (x4 * (lN 16807)) / (lN 2147483647) * (lN 2147483647)) / (lN 3) * (lN 3)) (lN 0)) = 0 → (wp_X8_drawn_110 Q (fun x1 x3 x4 x6 I => wp_X8_drawn_59 Q k137 n x1 x3 x4 x6 I) x1 x3 ((x4 * (lN 16807)) - (x4 * (lN 16807)) / (lN 2147483647) * (lN 2147483647)) x6 (nI 1) (nI 1323) I)) ∧ ((lg_cmp (((x4 * (lN 16807)) - (x4 * (lN 16807)) / (lN 2147483647) * (lN 2147483647)) - ((x4 * (lN 16807)) - (x4 * (lN 16807)) / (lN 2147483647) * (lN 2147483647)) / (lN 3) * (lN 3)) (lN 0)) = 0 → (wp_X8_drawn_110 Q (fun x1 x3 x4 x6 I => wp_X8_drawn_59 Q k137 n x1 x3 x4 x6 I) x1 x3 ((x4 * (lN 16807)) - (x4 * (lN 16807)) / (lN 2147483647) * (lN 2147483647)) x6 (nI 0) (nI 1323) I))))))))))
set_option maxHeartbeats 4000000 in
set_option maxRecDepth 100000 in
theorem w_X8_drawn_59 {E : EE} {p : Program} {l : Launch} {e : Env} {s : State} {m : MethodId} {args : Array Value} {below : List Frame} {meth : Method} {c : Code} {Q : Int32 → II → Prop} {k137 : Int32 → II → Prop} (X : CX E p s m args meth c cX8_drawn 7 (some .int) RX8) (K137 : ∀ (x3 : Int32) (I : II) (H : Heap) (locs : List Loc) (ls : Array Slot), k137 x3 I → PP E s H locs I → lv_has ls 7 [(0, .ref (E.2.1 315)), (3, .int x3)] → W p l e rmX8_drawn s m args below meth c H locs 0 0 (MQ below (va_Qi Q (BU E) E.2.2.2.1) args s 0 0 E.2.2.2.1) (F0 m 137 ls [])) : ∀ (n : Nat) (x1 : Int32) (x3 : Int32) (x4 : Int64) (x6 : Int32) (I : II) (H : Heap) (locs : List Loc) (ls : Array Slot), wp_X8_drawn_59 Q k137 n x1 x3 x4 x6 I → PP E s H locs I → lv_has ls 7 [(0, .ref (E.2.1 315)), (1, .int x1), (3, .int x3), (4, .long x4), (6, .int x6)] → W p l e rmX8_drawn s m args below meth c H locs 0 0 (MQ below (va_Qi Q (BU E) E.2.2.2.1) args s 0 0 E.2.2.2.1) (F0 m 59 ls []) := by
  obtain ⟨⟨hx, hb, hml, hown, hts⟩, hr, hlk, hK, hST, hN⟩ := id X
  intro n
  induction n with
  | zero =>
    intro x1 x3 x4 x6 I H locs ls h hp hl
    exact False.elim h
  | succ n ih =>
    intro x1 x3 x4 x6 I H locs ls h hp hl
    rw [wp_X8_drawn_59.eq_2] at h
    refine lv_iload hx hb dX8_drawn_59 (lv_at hl 4 rfl) ?_
    refine lv_iload_n hx hb dX8_drawn_61 rfl (lv_at hl 1 rfl) ?_
    refine lv_icmp_ge (tgt := 137) hx hb dX8_drawn_62 (by decide) (fun c1 => ?_) (fun c1 => ?_)
    · have h := h.1 c1
      exact K137 _ _ _ _ _ h hp (lv_sub hl [0, 2] rfl)
    · have h := h.2 c1
      refine lv_lload hx hb dX8_drawn_65 (lv_at hl 3 rfl) ?_
      refine lv_ldc2 (v := (lN 16807)) hx hb hown (hts _ tw_kl_X8_243) dX8_drawn_67 ?_
      refine lv_lmul hx hb dX8_drawn_70 ?_
      refine lv_ldc2 (v := (lN 2147483647)) hx hb hown (hts _ tw_kl_X8_245) dX8_drawn_71 ?_
      have hz2 := h.1
      have h := h.2
      refine lv_lrem hx hb dX8_drawn_74 hz2 ?_
      refine lv_lstore (lv' := [(4, .long ((x4 * (lN 16807)) - (x4 * (lN 16807)) / (lN 2147483647) * (lN 2147483647))), (0, .ref (E.2.1 315)), (1, .int x1), (3, .int x3), (6, .int x6)]) hx hb dX8_drawn_75 hl (by decide) rfl (fun ls hl => ?_)
      refine lv_aload_n hx hb dX8_drawn_77 rfl (lv_at hl 1 rfl) ?_
      refine f_X8_7 X hp dX8_drawn_78 ?_
      refine lv_sipush (v := (nI 1330)) hx hb dX8_drawn_81 (by decide) ?_
      have hv3 := h.1
      have h := h.2
      refine al_i X hp ar_s316 hv3 dX8_drawn_84 ?_
      refine lv_bipush (v := (nI 7)) hx hb dX8_drawn_85 (by decide) ?_
      refine lv_icmp_ge (tgt := 123) hx hb dX8_drawn_87 (by decide) (fun c4 => ?_) (fun c4 => ?_)
      · have h := h.1 c4
        exact w_X8_drawn_123 X ih _ _ _ _ _ _ _ _ h hp (lv_sub hl [1, 2, 3, 0, 4] rfl)
      · have h := h.2 c4
        refine lv_aload_n hx hb dX8_drawn_90 rfl (lv_at hl 1 rfl) ?_
        refine lv_sipush (v := (nI 1323)) hx hb dX8_drawn_91 (by decide) ?_
        refine lv_lload hx hb dX8_drawn_94 (lv_at hl 0 rfl) ?_
        refine lv_ldc2 (v := (lN 3)) hx hb hown (hts _ tw_kl_X8_247) dX8_drawn_96 ?_
        have hz5 := h.1
        have h := h.2
        refine lv_lrem hx hb dX8_drawn_99 hz5 ?_
        refine lv_lconst (v := (lN 0)) hx hb dX8_drawn_100 (by decide) ?_
        refine W.lcmp hx hb dX8_drawn_101 ?_
        refine lv_if_ne (tgt := 109) hx hb dX8_drawn_102 (by decide) (fun c6 => ?_) (fun c6 => ?_)
        · have h := h.1 c6
          refine lv_iconst (v := (nI 1)) hx hb dX8_drawn_109 (by decide) ?_
          exact w_X8_drawn_110 X ih _ _ _ _ _ _ _ _ _ _ h hp (lv_sub hl [1, 2, 3, 0, 4] rfl)
        · have h := h.2 c6
          refine lv_iconst (v := (nI 0)) hx hb dX8_drawn_105 (by decide) ?_
          refine lv_goto (tgt := 110) hx hb dX8_drawn_106 (by decide) ?_
          exact w_X8_drawn_110 X ih _ _ _ _ _ _ _ _ _ _ h hp (lv_sub hl [1, 2, 3, 0, 4] rfl)
def wp_X8_drawn (x1 : Int32) (x2 : Int32) (x3 : Int32) (I : II) (Q : Int32 → II → Prop) : Prop := ((¬ (I 315 1) = 0 → (wp_X8_in x1.toInt64 (lN 0) (lN 60) I (fun r3 I2 => ((r3 = 0 → (Q (-nI 1000001) I2)) ∧ (¬ r3 = 0 → (wp_X8_in x2.toInt64 (lN 1) (lN 999999) I2 (fun r6 I5 => ((r6 = 0 → (Q (-nI 1000001) I5)) ∧ (¬ r6 = 0 → (wp_X8_in x3.toInt64 (lN 0) (lN 1) I5 (fun r9 I8 => ((¬ r9 = 0 → (wp_X8_layTried (nI 0) I8 (fun I11 => (∃ n68, wp_X8_drawn_59 Q (fun x3 I => ((¬ x3 = 0 → (wp_X8_leftAt (nI 1323) I (fun r65 I64 => (Q r65 I64)))) ∧ (x3 = 0 → (vp_in (nI 1328) 1372 ∧ (vp_in (nI 5) 1372 ∧ (Q ((I 316 (nI 1328).toNatClampNeg) - (I 316 (nI 5).toNatClampNeg)) I)))))) n68 x1 x3 x2.toInt64 (nI 0) I11)))) ∧ (r9 = 0 → (Q (-nI 1000001) I8)))))))))))))) ∧ ((I 315 1) = 0 → (Q (-nI 1000002) I)))
set_option maxHeartbeats 4000000 in
set_option maxRecDepth 100000 in
theorem w_X8_drawn_0 {E : EE} {p : Program} {l : Launch} {e : Env} {s : State} {m : MethodId} {args : Array Value} {below : List Frame} {meth : Method} {c : Code} {Q : Int32 → II → Prop} (X : CX E p s m args meth c cX8_drawn 7 (some .int) RX8) : ∀ (x1 : Int32) (x2 : Int32) (x3 : Int32) (I : II) (H : Heap) (locs : List Loc) (ls : Array Slot), wp_X8_drawn x1 x2 x3 I Q → PP E s H locs I → lv_has ls 7 [(0, .ref (E.2.1 315)), (1, .int x1), (2, .int x2), (3, .int x3)] → W p l e rmX8_drawn s m args below meth c H locs 0 0 (MQ below (va_Qi Q (BU E) E.2.2.2.1) args s 0 0 E.2.2.2.1) (F0 m 0 ls []) := by
  obtain ⟨⟨hx, hb, hml, hown, hts⟩, hr, hlk, hK, hST, hN⟩ := id X
  intro x1 x2 x3 I H locs ls h hp hl
  unfold wp_X8_drawn at h
  refine lv_aload_n hx hb dX8_drawn_0 rfl (lv_at hl 0 rfl) ?_
  refine f_X8_137 X hp dX8_drawn_1 ?_
  refine lv_if_ne (tgt := 10) hx hb dX8_drawn_4 (by decide) (fun c1 => ?_) (fun c1 => ?_)
  · have h := h.1 c1
    refine lv_iload_n hx hb dX8_drawn_10 rfl (lv_at hl 1 rfl) ?_
    refine lv_i2l (v := x1.toInt64) hx hb dX8_drawn_11 rfl ?_
    refine lv_lconst (v := (lN 0)) hx hb dX8_drawn_12 (by decide) ?_
    refine lv_ldc2 (v := (lN 60)) hx hb hown (hts _ tw_kl_X8_197) dX8_drawn_13 ?_
    refine ki (kS (As := [.long x1.toInt64, .long (lN 0), .long (lN 60)]) (rest := []) X hp (C_X8_in  h) tw_ml_X8_45 sf_X8_in ⟨rfl, rfl, Nat.le_of_ble_eq_true rfl, Nat.le_of_ble_eq_true rfl⟩ rfl hl.1 rfl (Nat.le_of_ble_eq_true rfl) dX8_drawn_16) hp (fun r3 I2 H locs h hp => ?_)
    refine lv_if_eq (tgt := 44) hx hb dX8_drawn_19 (by decide) (fun c4 => ?_) (fun c4 => ?_)
    · have h := h.1 c4
      refine lv_ldc (v := (-nI 1000001)) hx hb hown (hts _ tw_k_X8_55) dX8_drawn_44 ?_
      exact rt_i X hp h dX8_drawn_46
    · have h := h.2 c4
      refine lv_iload_n hx hb dX8_drawn_22 rfl (lv_at hl 2 rfl) ?_
      refine lv_i2l (v := x2.toInt64) hx hb dX8_drawn_23 rfl ?_
      refine lv_lconst (v := (lN 1)) hx hb dX8_drawn_24 (by decide) ?_
      refine lv_ldc2 (v := (lN 999999)) hx hb hown (hts _ tw_kl_X8_241) dX8_drawn_25 ?_
      refine ki (kS (As := [.long x2.toInt64, .long (lN 1), .long (lN 999999)]) (rest := []) X hp (C_X8_in  h) tw_ml_X8_45 sf_X8_in ⟨rfl, rfl, Nat.le_of_ble_eq_true rfl, Nat.le_of_ble_eq_true rfl⟩ rfl hl.1 rfl (Nat.le_of_ble_eq_true rfl) dX8_drawn_28) hp (fun r6 I5 H locs h hp => ?_)
      refine lv_if_eq (tgt := 44) hx hb dX8_drawn_31 (by decide) (fun c7 => ?_) (fun c7 => ?_)
      · have h := h.1 c7
        refine lv_ldc (v := (-nI 1000001)) hx hb hown (hts _ tw_k_X8_55) dX8_drawn_44 ?_
        exact rt_i X hp h dX8_drawn_46
      · have h := h.2 c7
        refine lv_iload_n hx hb dX8_drawn_34 rfl (lv_at hl 3 rfl) ?_
        refine lv_i2l (v := x3.toInt64) hx hb dX8_drawn_35 rfl ?_
        refine lv_lconst (v := (lN 0)) hx hb dX8_drawn_36 (by decide) ?_
        refine lv_lconst (v := (lN 1)) hx hb dX8_drawn_37 (by decide) ?_
        refine ki (kS (As := [.long x3.toInt64, .long (lN 0), .long (lN 1)]) (rest := []) X hp (C_X8_in  h) tw_ml_X8_45 sf_X8_in ⟨rfl, rfl, Nat.le_of_ble_eq_true rfl, Nat.le_of_ble_eq_true rfl⟩ rfl hl.1 rfl (Nat.le_of_ble_eq_true rfl) dX8_drawn_38) hp (fun r9 I8 H locs h hp => ?_)
        refine lv_if_ne (tgt := 47) hx hb dX8_drawn_41 (by decide) (fun c10 => ?_) (fun c10 => ?_)
        · have h := h.1 c10
          refine lv_aload_n hx hb dX8_drawn_47 rfl (lv_at hl 0 rfl) ?_
          refine lv_iconst (v := (nI 0)) hx hb dX8_drawn_48 (by decide) ?_
          refine kv (kV (As := [.int (nI 0)]) (rest := []) X hp (C_X8_layTried  h) tw_ml_X8_199 vf_X8_layTried ⟨rfl, rfl, Nat.le_of_ble_eq_true rfl, Nat.le_of_ble_eq_true rfl⟩ (pr_rcv X hp (k := 315) (by decide) (ob_315 _) (q := (RX8, TX8, 18)) rfl) rfl hl.1 rfl (Nat.le_of_ble_eq_true rfl) dX8_drawn_49) hp (fun I11 H locs h hp => ?_)
          refine lv_iload_n hx hb dX8_drawn_52 rfl (lv_at hl 2 rfl) ?_
          refine lv_i2l (v := x2.toInt64) hx hb dX8_drawn_53 rfl ?_
          refine lv_lstore (lv' := [(4, .long x2.toInt64), (0, .ref (E.2.1 315)), (1, .int x1), (2, .int x2), (3, .int x3)]) hx hb dX8_drawn_54 hl (by decide) rfl (fun ls hl => ?_)
          refine lv_iconst (v := (nI 0)) hx hb dX8_drawn_56 (by decide) ?_
          refine lv_istore (lv' := [(6, .int (nI 0)), (4, .long x2.toInt64), (0, .ref (E.2.1 315)), (1, .int x1), (2, .int x2), (3, .int x3)]) hx hb dX8_drawn_57 hl (by decide) rfl (fun ls hl => ?_)
          obtain ⟨n68, h⟩ := h
          refine w_X8_drawn_59 X ?_ n68 _ _ _ _ _ _ _ _ h hp (lv_sub hl [2, 3, 5, 1, 0] rfl)
          · intro x3 I H locs ls h hp hl
            refine lv_iload_n hx hb dX8_drawn_137 rfl (lv_at hl 1 rfl) ?_
            refine lv_if_ne (tgt := 159) hx hb dX8_drawn_138 (by decide) (fun c63 => ?_) (fun c63 => ?_)
            · have h := h.1 c63
              refine lv_aload_n hx hb dX8_drawn_159 rfl (lv_at hl 0 rfl) ?_
              refine lv_sipush (v := (nI 1323)) hx hb dX8_drawn_160 (by decide) ?_
              refine ki (kV (As := [.int (nI 1323)]) (rest := []) X hp (C_X8_leftAt  h) tw_ml_X8_208 vf_X8_leftAt ⟨rfl, rfl, Nat.le_of_ble_eq_true rfl, Nat.le_of_ble_eq_true rfl⟩ (pr_rcv X hp (k := 315) (by decide) (ob_315 _) (q := (RX8, TX8, 18)) rfl) rfl hl.1 rfl (Nat.le_of_ble_eq_true rfl) dX8_drawn_163) hp (fun r65 I64 H locs h hp => ?_)
              exact rt_i X hp h dX8_drawn_166
            · have h := h.2 c63
              refine lv_aload_n hx hb dX8_drawn_141 rfl (lv_at hl 0 rfl) ?_
              refine f_X8_7 X hp dX8_drawn_142 ?_
              refine lv_sipush (v := (nI 1328)) hx hb dX8_drawn_145 (by decide) ?_
              have hv66 := h.1
              have h := h.2
              refine al_i X hp ar_s316 hv66 dX8_drawn_148 ?_
              refine lv_aload_n hx hb dX8_drawn_149 rfl (lv_at hl 0 rfl) ?_
              refine f_X8_7 X hp dX8_drawn_150 ?_
              refine lv_iconst (v := (nI 5)) hx hb dX8_drawn_153 (by decide) ?_
              have hv67 := h.1
              have h := h.2
              refine al_i X hp ar_s316 hv67 dX8_drawn_154 ?_
              refine lv_isub hx hb dX8_drawn_155 ?_
              refine lv_goto (tgt := 166) hx hb dX8_drawn_156 (by decide) ?_
              exact rt_i X hp h dX8_drawn_166
        · have h := h.2 c10
          refine lv_ldc (v := (-nI 1000001)) hx hb hown (hts _ tw_k_X8_55) dX8_drawn_44 ?_
          exact rt_i X hp h dX8_drawn_46
  · have h := h.2 c1
    refine lv_ldc (v := (-nI 1000002)) hx hb hown (hts _ tw_k_X8_144) dX8_drawn_7 ?_
    exact rt_i X hp h dX8_drawn_9
set_option maxRecDepth 100000 in
theorem C_X8_drawn {E : EE} {l : Launch} {x1 : Int32} {x2 : Int32} {x3 : Int32} {I : II} {Q : Int32 → II → Prop} (h : wp_X8_drawn x1 x2 x3 I Q) : Met l yX8_drawn (Cond.code yX8_drawn cX8_drawn 7 (some .int) :: lwT) rmX8_drawn (va_Pc [.ref (E.2.1 315), .int x1, .int x2, .int x3] (PU E I)) (va_Qi Q (BU E) E.2.2.2.1) 0 0 E.2.2.2.1 :=
  ofWalk [.ref (E.2.1 315), .int x1, .int x2, .int x3] (by decide) tw_c_X8_drawn (Nat.le_of_ble_eq_true rfl) (fun p e s m below meth c ls X hp hl => w_X8_drawn_0 X _ _ _ _ _ _ _ h hp hl)
abbrev rmX8_image : Room := { frames := 1, cells := 0, slots := 0, locals := 25 }
theorem vf_X8_image : VF yX8_image RX8 cX8_image 2 (some .int) 1 := ⟨tw_in_X8, tw_im_X8_image, tw_se_X8_image, tw_c_X8_image, by decide, by decide, by decide +kernel⟩
def wp_X8_image (x1 : Int32) (I : II) (Q : Int32 → II → Prop) : Prop := (wp_X8_in x1.toInt64 (lN 0) (lN 1) I (fun r2 I1 => ((¬ r2 = 0 → ((¬ (I1 315 1) = 0 → (wp_X8_copyTown (nI 0) ((nI 1225) + ((nI 49) * x1)) I1 (fun I5 => (vp_in x1 2 ∧ ∀ I8 : II, I8 = su I5 317 x1.toNatClampNeg (nI 1) → (Q (nI 1) I8))))) ∧ ((I1 315 1) = 0 → (Q (-nI 1000002) I1)))) ∧ (r2 = 0 → (Q (-nI 1000001) I1)))))
set_option maxHeartbeats 4000000 in
set_option maxRecDepth 100000 in
theorem w_X8_image_0 {E : EE} {p : Program} {l : Launch} {e : Env} {s : State} {m : MethodId} {args : Array Value} {below : List Frame} {meth : Method} {c : Code} {Q : Int32 → II → Prop} (X : CX E p s m args meth c cX8_image 2 (some .int) RX8) : ∀ (x1 : Int32) (I : II) (H : Heap) (locs : List Loc) (ls : Array Slot), wp_X8_image x1 I Q → PP E s H locs I → lv_has ls 2 [(0, .ref (E.2.1 315)), (1, .int x1)] → W p l e rmX8_image s m args below meth c H locs 0 0 (MQ below (va_Qi Q (BU E) E.2.2.2.1) args s 0 0 E.2.2.2.1) (F0 m 0 ls []) := by
  obtain ⟨⟨hx, hb, hml, hown, hts⟩, hr, hlk, hK, hST, hN⟩ := id X
  intro x1 I H locs ls h hp hl
  unfold wp_X8_image at h
  refine lv_iload_n hx hb dX8_image_0 rfl (lv_at hl 1 rfl) ?_
  refine lv_i2l (v := x1.toInt64) hx hb dX8_image_1 rfl ?_
  refine lv_lconst (v := (lN 0)) hx hb dX8_image_2 (by decide) ?_
  refine lv_lconst (v := (lN 1)) hx hb dX8_image_3 (by decide) ?_
  refine ki (kS (As := [.long x1.toInt64, .long (lN 0), .long (lN 1)]) (rest := []) X hp (C_X8_in  h) tw_ml_X8_45 sf_X8_in ⟨rfl, rfl, Nat.le_of_ble_eq_true rfl, Nat.le_of_ble_eq_true rfl⟩ rfl hl.1 rfl (Nat.le_of_ble_eq_true rfl) dX8_image_4) hp (fun r2 I1 H locs h hp => ?_)
  refine lv_if_ne (tgt := 13) hx hb dX8_image_7 (by decide) (fun c3 => ?_) (fun c3 => ?_)
  · have h := h.1 c3
    refine lv_aload_n hx hb dX8_image_13 rfl (lv_at hl 0 rfl) ?_
    refine f_X8_137 X hp dX8_image_14 ?_
    refine lv_if_ne (tgt := 23) hx hb dX8_image_17 (by decide) (fun c4 => ?_) (fun c4 => ?_)
    · have h := h.1 c4
      refine lv_aload_n hx hb dX8_image_23 rfl (lv_at hl 0 rfl) ?_
      refine lv_iconst (v := (nI 0)) hx hb dX8_image_24 (by decide) ?_
      refine lv_sipush (v := (nI 1225)) hx hb dX8_image_25 (by decide) ?_
      refine lv_bipush (v := (nI 49)) hx hb dX8_image_28 (by decide) ?_
      refine lv_iload_n hx hb dX8_image_30 rfl (lv_at hl 1 rfl) ?_
      refine lv_imul hx hb dX8_image_31 ?_
      refine lv_iadd hx hb dX8_image_32 ?_
      refine kv (kV (As := [.int (nI 0), .int ((nI 1225) + ((nI 49) * x1))]) (rest := []) X hp (C_X8_copyTown  h) tw_ml_X8_133 vf_X8_copyTown ⟨rfl, rfl, Nat.le_of_ble_eq_true rfl, Nat.le_of_ble_eq_true rfl⟩ (pr_rcv X hp (k := 315) (by decide) (ob_315 _) (q := (RX8, TX8, 18)) rfl) rfl hl.1 rfl (Nat.le_of_ble_eq_true rfl) dX8_image_33) hp (fun I5 H locs h hp => ?_)
      refine lv_aload_n hx hb dX8_image_36 rfl (lv_at hl 0 rfl) ?_
      refine f_X8_13 X hp dX8_image_37 ?_
      refine lv_iload_n hx hb dX8_image_40 rfl (lv_at hl 1 rfl) ?_
      refine lv_iconst (v := (nI 1)) hx hb dX8_image_41 (by decide) ?_
      have hv7 := h.1
      have h := h.2
      refine as_z X hp hv7 dX8_image_42 (fun H locs hp => ?_)
      obtain ⟨I8, e9⟩ : ∃ y, y = su I5 317 x1.toNatClampNeg (nI 1) := ⟨_, rfl⟩
      have hp : PP E s H locs I8 := by rw [e9]; exact hp
      have h := h I8 e9
      refine lv_iconst (v := (nI 1)) hx hb dX8_image_43 (by decide) ?_
      exact rt_i X hp h dX8_image_44
    · have h := h.2 c4
      refine lv_ldc (v := (-nI 1000002)) hx hb hown (hts _ tw_k_X8_144) dX8_image_20 ?_
      exact rt_i X hp h dX8_image_22
  · have h := h.2 c3
    refine lv_ldc (v := (-nI 1000001)) hx hb hown (hts _ tw_k_X8_55) dX8_image_10 ?_
    exact rt_i X hp h dX8_image_12
set_option maxRecDepth 100000 in
theorem C_X8_image {E : EE} {l : Launch} {x1 : Int32} {I : II} {Q : Int32 → II → Prop} (h : wp_X8_image x1 I Q) : Met l yX8_image (Cond.code yX8_image cX8_image 2 (some .int) :: lwT) rmX8_image (va_Pc [.ref (E.2.1 315), .int x1] (PU E I)) (va_Qi Q (BU E) E.2.2.2.1) 0 0 E.2.2.2.1 :=
  ofWalk [.ref (E.2.1 315), .int x1] (by decide) tw_c_X8_image (Nat.le_of_ble_eq_true rfl) (fun p e s m below meth c ls X hp hl => w_X8_image_0 X _ _ _ _ _ h hp hl)
abbrev rmX8_restore : Room := { frames := 1, cells := 0, slots := 0, locals := 25 }
theorem vf_X8_restore : VF yX8_restore RX8 cX8_restore 2 (some .int) 1 := ⟨tw_in_X8, tw_im_X8_restore, tw_se_X8_restore, tw_c_X8_restore, by decide, by decide, by decide +kernel⟩
def wp_X8_restore (x1 : Int32) (I : II) (Q : Int32 → II → Prop) : Prop := (wp_X8_in x1.toInt64 (lN 0) (lN 1) I (fun r2 I1 => ((¬ r2 = 0 → (vp_in x1 2 ∧ ((¬ (I1 317 x1.toNatClampNeg) = 0 → (wp_X8_copyTown ((nI 1225) + ((nI 49) * x1)) (nI 0) I1 (fun I6 => (∀ I8 : II, I8 = su I6 315 2 (nI 0) → (Q (nI 1) I8))))) ∧ ((I1 317 x1.toNatClampNeg) = 0 → (Q (-nI 1000002) I1))))) ∧ (r2 = 0 → (Q (-nI 1000001) I1)))))
set_option maxHeartbeats 4000000 in
set_option maxRecDepth 100000 in
theorem w_X8_restore_0 {E : EE} {p : Program} {l : Launch} {e : Env} {s : State} {m : MethodId} {args : Array Value} {below : List Frame} {meth : Method} {c : Code} {Q : Int32 → II → Prop} (X : CX E p s m args meth c cX8_restore 2 (some .int) RX8) : ∀ (x1 : Int32) (I : II) (H : Heap) (locs : List Loc) (ls : Array Slot), wp_X8_restore x1 I Q → PP E s H locs I → lv_has ls 2 [(0, .ref (E.2.1 315)), (1, .int x1)] → W p l e rmX8_restore s m args below meth c H locs 0 0 (MQ below (va_Qi Q (BU E) E.2.2.2.1) args s 0 0 E.2.2.2.1) (F0 m 0 ls []) := by
  obtain ⟨⟨hx, hb, hml, hown, hts⟩, hr, hlk, hK, hST, hN⟩ := id X
  intro x1 I H locs ls h hp hl
  unfold wp_X8_restore at h
  refine lv_iload_n hx hb dX8_restore_0 rfl (lv_at hl 1 rfl) ?_
  refine lv_i2l (v := x1.toInt64) hx hb dX8_restore_1 rfl ?_
  refine lv_lconst (v := (lN 0)) hx hb dX8_restore_2 (by decide) ?_
  refine lv_lconst (v := (lN 1)) hx hb dX8_restore_3 (by decide) ?_
  refine ki (kS (As := [.long x1.toInt64, .long (lN 0), .long (lN 1)]) (rest := []) X hp (C_X8_in  h) tw_ml_X8_45 sf_X8_in ⟨rfl, rfl, Nat.le_of_ble_eq_true rfl, Nat.le_of_ble_eq_true rfl⟩ rfl hl.1 rfl (Nat.le_of_ble_eq_true rfl) dX8_restore_4) hp (fun r2 I1 H locs h hp => ?_)
  refine lv_if_ne (tgt := 13) hx hb dX8_restore_7 (by decide) (fun c3 => ?_) (fun c3 => ?_)
  · have h := h.1 c3
    refine lv_aload_n hx hb dX8_restore_13 rfl (lv_at hl 0 rfl) ?_
    refine f_X8_13 X hp dX8_restore_14 ?_
    refine lv_iload_n hx hb dX8_restore_17 rfl (lv_at hl 1 rfl) ?_
    have hv4 := h.1
    have h := h.2
    refine al_z X hp hv4 dX8_restore_18 ?_
    refine lv_if_ne (tgt := 25) hx hb dX8_restore_19 (by decide) (fun c5 => ?_) (fun c5 => ?_)
    · have h := h.1 c5
      refine lv_aload_n hx hb dX8_restore_25 rfl (lv_at hl 0 rfl) ?_
      refine lv_sipush (v := (nI 1225)) hx hb dX8_restore_26 (by decide) ?_
      refine lv_bipush (v := (nI 49)) hx hb dX8_restore_29 (by decide) ?_
      refine lv_iload_n hx hb dX8_restore_31 rfl (lv_at hl 1 rfl) ?_
      refine lv_imul hx hb dX8_restore_32 ?_
      refine lv_iadd hx hb dX8_restore_33 ?_
      refine lv_iconst (v := (nI 0)) hx hb dX8_restore_34 (by decide) ?_
      refine kv (kV (As := [.int ((nI 1225) + ((nI 49) * x1)), .int (nI 0)]) (rest := []) X hp (C_X8_copyTown  h) tw_ml_X8_133 vf_X8_copyTown ⟨rfl, rfl, Nat.le_of_ble_eq_true rfl, Nat.le_of_ble_eq_true rfl⟩ (pr_rcv X hp (k := 315) (by decide) (ob_315 _) (q := (RX8, TX8, 18)) rfl) rfl hl.1 rfl (Nat.le_of_ble_eq_true rfl) dX8_restore_35) hp (fun I6 H locs h hp => ?_)
      refine lv_aload_n hx hb dX8_restore_38 rfl (lv_at hl 0 rfl) ?_
      refine lv_iconst (v := (nI 0)) hx hb dX8_restore_39 (by decide) ?_
      refine g_X8_141 X hp dX8_restore_40 (fun H locs hp => ?_)
      obtain ⟨I8, e9⟩ : ∃ y, y = su I6 315 2 (nI 0) := ⟨_, rfl⟩
      have hp : PP E s H locs I8 := by rw [e9]; exact hp
      have h := h I8 e9
      refine lv_iconst (v := (nI 1)) hx hb dX8_restore_43 (by decide) ?_
      exact rt_i X hp h dX8_restore_44
    · have h := h.2 c5
      refine lv_ldc (v := (-nI 1000002)) hx hb hown (hts _ tw_k_X8_144) dX8_restore_22 ?_
      exact rt_i X hp h dX8_restore_24
  · have h := h.2 c3
    refine lv_ldc (v := (-nI 1000001)) hx hb hown (hts _ tw_k_X8_55) dX8_restore_10 ?_
    exact rt_i X hp h dX8_restore_12
set_option maxRecDepth 100000 in
theorem C_X8_restore {E : EE} {l : Launch} {x1 : Int32} {I : II} {Q : Int32 → II → Prop} (h : wp_X8_restore x1 I Q) : Met l yX8_restore (Cond.code yX8_restore cX8_restore 2 (some .int) :: lwT) rmX8_restore (va_Pc [.ref (E.2.1 315), .int x1] (PU E I)) (va_Qi Q (BU E) E.2.2.2.1) 0 0 E.2.2.2.1 :=
  ofWalk [.ref (E.2.1 315), .int x1] (by decide) tw_c_X8_restore (Nat.le_of_ble_eq_true rfl) (fun p e s m below meth c ls X hp hl => w_X8_restore_0 X _ _ _ _ _ h hp hl)
abbrev rmX8_kind : Room := { frames := 2, cells := 0, slots := 0, locals := 46 }
theorem vf_X8_kind : VF yX8_kind RX8 cX8_kind 2 (some .int) 1 := ⟨tw_in_X8, tw_im_X8_kind, tw_se_X8_kind, tw_c_X8_kind, by decide, by decide, by decide +kernel⟩
def wp_X8_kind (x1 : Int32) (I : II) (Q : Int32 → II → Prop) : Prop := (wp_X8_isTeller x1 I (fun r2 I1 => ((r2 = 0 → (Q (-nI 1000001) I1)) ∧ (¬ r2 = 0 → (vp_in ((nI 29) + x1) 1372 ∧ (Q (I1 316 ((nI 29) + x1).toNatClampNeg) I1))))))
set_option maxHeartbeats 4000000 in
set_option maxRecDepth 100000 in
theorem w_X8_kind_0 {E : EE} {p : Program} {l : Launch} {e : Env} {s : State} {m : MethodId} {args : Array Value} {below : List Frame} {meth : Method} {c : Code} {Q : Int32 → II → Prop} (X : CX E p s m args meth c cX8_kind 2 (some .int) RX8) : ∀ (x1 : Int32) (I : II) (H : Heap) (locs : List Loc) (ls : Array Slot), wp_X8_kind x1 I Q → PP E s H locs I → lv_has ls 2 [(0, .ref (E.2.1 315)), (1, .int x1)] → W p l e rmX8_kind s m args below meth c H locs 0 0 (MQ below (va_Qi Q (BU E) E.2.2.2.1) args s 0 0 E.2.2.2.1) (F0 m 0 ls []) := by
  obtain ⟨⟨hx, hb, hml, hown, hts⟩, hr, hlk, hK, hST, hN⟩ := id X
  intro x1 I H locs ls h hp hl
  unfold wp_X8_kind at h
  refine lv_aload_n hx hb dX8_kind_0 rfl (lv_at hl 0 rfl) ?_
  refine lv_iload_n hx hb dX8_kind_1 rfl (lv_at hl 1 rfl) ?_
  refine ki (kV (As := [.int x1]) (rest := []) X hp (C_X8_isTeller  h) tw_ml_X8_175 vf_X8_isTeller ⟨rfl, rfl, Nat.le_of_ble_eq_true rfl, Nat.le_of_ble_eq_true rfl⟩ (pr_rcv X hp (k := 315) (by decide) (ob_315 _) (q := (RX8, TX8, 18)) rfl) rfl hl.1 rfl (Nat.le_of_ble_eq_true rfl) dX8_kind_2) hp (fun r2 I1 H locs h hp => ?_)
  refine lv_if_eq (tgt := 20) hx hb dX8_kind_5 (by decide) (fun c3 => ?_) (fun c3 => ?_)
  · have h := h.1 c3
    refine lv_ldc (v := (-nI 1000001)) hx hb hown (hts _ tw_k_X8_55) dX8_kind_20 ?_
    exact rt_i X hp h dX8_kind_22
  · have h := h.2 c3
    refine lv_aload_n hx hb dX8_kind_8 rfl (lv_at hl 0 rfl) ?_
    refine f_X8_7 X hp dX8_kind_9 ?_
    refine lv_bipush (v := (nI 29)) hx hb dX8_kind_12 (by decide) ?_
    refine lv_iload_n hx hb dX8_kind_14 rfl (lv_at hl 1 rfl) ?_
    refine lv_iadd hx hb dX8_kind_15 ?_
    have hv4 := h.1
    have h := h.2
    refine al_i X hp ar_s316 hv4 dX8_kind_16 ?_
    refine lv_goto (tgt := 22) hx hb dX8_kind_17 (by decide) ?_
    exact rt_i X hp h dX8_kind_22
set_option maxRecDepth 100000 in
theorem C_X8_kind {E : EE} {l : Launch} {x1 : Int32} {I : II} {Q : Int32 → II → Prop} (h : wp_X8_kind x1 I Q) : Met l yX8_kind (Cond.code yX8_kind cX8_kind 2 (some .int) :: lwT) rmX8_kind (va_Pc [.ref (E.2.1 315), .int x1] (PU E I)) (va_Qi Q (BU E) E.2.2.2.1) 0 0 E.2.2.2.1 :=
  ofWalk [.ref (E.2.1 315), .int x1] (by decide) tw_c_X8_kind (Nat.le_of_ble_eq_true rfl) (fun p e s m below meth c ls X hp hl => w_X8_kind_0 X _ _ _ _ _ h hp hl)
abbrev rmX8_isOf : Room := { frames := 0, cells := 0, slots := 0, locals := 0 }
theorem vf_X8_isOf : VF yX8_isOf RX8 cX8_isOf 4 (some .boolean) 2 := ⟨tw_in_X8, tw_im_X8_isOf, tw_se_X8_isOf, tw_c_X8_isOf, by decide, by decide, by decide +kernel⟩
def wp_X8_isOf_44 (Q : Int32 → II → Prop) (I : II) : Prop := (Q (nI 1) I)
set_option maxHeartbeats 4000000 in
set_option maxRecDepth 100000 in
theorem w_X8_isOf_44 {E : EE} {p : Program} {l : Launch} {e : Env} {s : State} {m : MethodId} {args : Array Value} {below : List Frame} {meth : Method} {c : Code} {Q : Int32 → II → Prop} (X : CX E p s m args meth c cX8_isOf 4 (some .boolean) RX8) : ∀ (I : II) (H : Heap) (locs : List Loc) (ls : Array Slot), wp_X8_isOf_44 Q I → PP E s H locs I → lv_has ls 4 [] → W p l e rmX8_isOf s m args below meth c H locs 0 0 (MQ below (va_Qi Q (BU E) E.2.2.2.1) args s 0 0 E.2.2.2.1) (F0 m 44 ls []) := by
  obtain ⟨⟨hx, hb, hml, hown, hts⟩, hr, hlk, hK, hST, hN⟩ := id X
  intro I H locs ls h hp hl
  unfold wp_X8_isOf_44 at h
  refine lv_iconst (v := (nI 1)) hx hb dX8_isOf_44 (by decide) ?_
  refine lv_goto (tgt := 49) hx hb dX8_isOf_45 (by decide) ?_
  exact rt_z X hp ⟨Or.inr rfl, h⟩ dX8_isOf_49
def wp_X8_isOf_34 (Q : Int32 → II → Prop) (x2 : Int32) (x3 : Int32) (I : II) : Prop := ((¬ x2 = (nI 4) → (Q (nI 0) I)) ∧ (x2 = (nI 4) → ((¬ x3 = (nI 5) → (Q (nI 0) I)) ∧ (x3 = (nI 5) → (wp_X8_isOf_44 Q I)))))
set_option maxHeartbeats 4000000 in
set_option maxRecDepth 100000 in
theorem w_X8_isOf_34 {E : EE} {p : Program} {l : Launch} {e : Env} {s : State} {m : MethodId} {args : Array Value} {below : List Frame} {meth : Method} {c : Code} {Q : Int32 → II → Prop} (X : CX E p s m args meth c cX8_isOf 4 (some .boolean) RX8) : ∀ (x2 : Int32) (x3 : Int32) (I : II) (H : Heap) (locs : List Loc) (ls : Array Slot), wp_X8_isOf_34 Q x2 x3 I → PP E s H locs I → lv_has ls 4 [(2, .int x2), (3, .int x3)] → W p l e rmX8_isOf s m args below meth c H locs 0 0 (MQ below (va_Qi Q (BU E) E.2.2.2.1) args s 0 0 E.2.2.2.1) (F0 m 34 ls []) := by
  obtain ⟨⟨hx, hb, hml, hown, hts⟩, hr, hlk, hK, hST, hN⟩ := id X
  intro x2 x3 I H locs ls h hp hl
  unfold wp_X8_isOf_34 at h
  refine lv_iload_n hx hb dX8_isOf_34 rfl (lv_at hl 0 rfl) ?_
  refine lv_iconst (v := (nI 4)) hx hb dX8_isOf_35 (by decide) ?_
  refine lv_icmp_ne (tgt := 48) hx hb dX8_isOf_36 (by decide) (fun c1 => ?_) (fun c1 => ?_)
  · have h := h.1 c1
    refine lv_iconst (v := (nI 0)) hx hb dX8_isOf_48 (by decide) ?_
    exact rt_z X hp ⟨Or.inl rfl, h⟩ dX8_isOf_49
  · have h := h.2 c1
    refine lv_iload_n hx hb dX8_isOf_39 rfl (lv_at hl 1 rfl) ?_
    refine lv_iconst (v := (nI 5)) hx hb dX8_isOf_40 (by decide) ?_
    refine lv_icmp_ne (tgt := 48) hx hb dX8_isOf_41 (by decide) (fun c2 => ?_) (fun c2 => ?_)
    · have h := h.1 c2
      refine lv_iconst (v := (nI 0)) hx hb dX8_isOf_48 (by decide) ?_
      exact rt_z X hp ⟨Or.inl rfl, h⟩ dX8_isOf_49
    · have h := h.2 c2
      exact w_X8_isOf_44 X  _ _ _ _ h hp (lv_sub hl [] rfl)
def wp_X8_isOf (x1 : Int32) (x2 : Int32) (I : II) (Q : Int32 → II → Prop) : Prop := (vp_in ((nI 29) + x1) 1372 ∧ ((x2 = 0 → (wp_X8_isOf_44 Q I)) ∧ (¬ x2 = 0 → ((x2 = (I 316 ((nI 29) + x1).toNatClampNeg) → (wp_X8_isOf_44 Q I)) ∧ (¬ x2 = (I 316 ((nI 29) + x1).toNatClampNeg) → ((¬ x2 = (nI 1) → (wp_X8_isOf_34 Q x2 (I 316 ((nI 29) + x1).toNatClampNeg) I)) ∧ (x2 = (nI 1) → (((I 316 ((nI 29) + x1).toNatClampNeg) = (nI 2) → (wp_X8_isOf_44 Q I)) ∧ (¬ (I 316 ((nI 29) + x1).toNatClampNeg) = (nI 2) → (((I 316 ((nI 29) + x1).toNatClampNeg) = (nI 3) → (wp_X8_isOf_44 Q I)) ∧ (¬ (I 316 ((nI 29) + x1).toNatClampNeg) = (nI 3) → (wp_X8_isOf_34 Q x2 (I 316 ((nI 29) + x1).toNatClampNeg) I))))))))))))
set_option maxHeartbeats 4000000 in
set_option maxRecDepth 100000 in
theorem w_X8_isOf_0 {E : EE} {p : Program} {l : Launch} {e : Env} {s : State} {m : MethodId} {args : Array Value} {below : List Frame} {meth : Method} {c : Code} {Q : Int32 → II → Prop} (X : CX E p s m args meth c cX8_isOf 4 (some .boolean) RX8) : ∀ (x1 : Int32) (x2 : Int32) (I : II) (H : Heap) (locs : List Loc) (ls : Array Slot), wp_X8_isOf x1 x2 I Q → PP E s H locs I → lv_has ls 4 [(0, .ref (E.2.1 315)), (1, .int x1), (2, .int x2)] → W p l e rmX8_isOf s m args below meth c H locs 0 0 (MQ below (va_Qi Q (BU E) E.2.2.2.1) args s 0 0 E.2.2.2.1) (F0 m 0 ls []) := by
  obtain ⟨⟨hx, hb, hml, hown, hts⟩, hr, hlk, hK, hST, hN⟩ := id X
  intro x1 x2 I H locs ls h hp hl
  unfold wp_X8_isOf at h
  refine lv_aload_n hx hb dX8_isOf_0 rfl (lv_at hl 0 rfl) ?_
  refine f_X8_7 X hp dX8_isOf_1 ?_
  refine lv_bipush (v := (nI 29)) hx hb dX8_isOf_4 (by decide) ?_
  refine lv_iload_n hx hb dX8_isOf_6 rfl (lv_at hl 1 rfl) ?_
  refine lv_iadd hx hb dX8_isOf_7 ?_
  have hv1 := h.1
  have h := h.2
  refine al_i X hp ar_s316 hv1 dX8_isOf_8 ?_
  refine lv_istore_n (lv' := [(3, .int (I 316 ((nI 29) + x1).toNatClampNeg)), (0, .ref (E.2.1 315)), (1, .int x1), (2, .int x2)]) hx hb dX8_isOf_9 rfl hl (by decide) rfl (fun ls hl => ?_)
  refine lv_iload_n hx hb dX8_isOf_10 rfl (lv_at hl 3 rfl) ?_
  refine lv_if_eq (tgt := 44) hx hb dX8_isOf_11 (by decide) (fun c2 => ?_) (fun c2 => ?_)
  · have h := h.1 c2
    exact w_X8_isOf_44 X  _ _ _ _ h hp (lv_sub hl [] rfl)
  · have h := h.2 c2
    refine lv_iload_n hx hb dX8_isOf_14 rfl (lv_at hl 3 rfl) ?_
    refine lv_iload_n hx hb dX8_isOf_15 rfl (lv_at hl 0 rfl) ?_
    refine lv_icmp_eq (tgt := 44) hx hb dX8_isOf_16 (by decide) (fun c3 => ?_) (fun c3 => ?_)
    · have h := h.1 c3
      exact w_X8_isOf_44 X  _ _ _ _ h hp (lv_sub hl [] rfl)
    · have h := h.2 c3
      refine lv_iload_n hx hb dX8_isOf_19 rfl (lv_at hl 3 rfl) ?_
      refine lv_iconst (v := (nI 1)) hx hb dX8_isOf_20 (by decide) ?_
      refine lv_icmp_ne (tgt := 34) hx hb dX8_isOf_21 (by decide) (fun c4 => ?_) (fun c4 => ?_)
      · have h := h.1 c4
        exact w_X8_isOf_34 X  _ _ _ _ _ _ h hp (lv_sub hl [3, 0] rfl)
      · have h := h.2 c4
        refine lv_iload_n hx hb dX8_isOf_24 rfl (lv_at hl 0 rfl) ?_
        refine lv_iconst (v := (nI 2)) hx hb dX8_isOf_25 (by decide) ?_
        refine lv_icmp_eq (tgt := 44) hx hb dX8_isOf_26 (by decide) (fun c5 => ?_) (fun c5 => ?_)
        · have h := h.1 c5
          exact w_X8_isOf_44 X  _ _ _ _ h hp (lv_sub hl [] rfl)
        · have h := h.2 c5
          refine lv_iload_n hx hb dX8_isOf_29 rfl (lv_at hl 0 rfl) ?_
          refine lv_iconst (v := (nI 3)) hx hb dX8_isOf_30 (by decide) ?_
          refine lv_icmp_eq (tgt := 44) hx hb dX8_isOf_31 (by decide) (fun c6 => ?_) (fun c6 => ?_)
          · have h := h.1 c6
            exact w_X8_isOf_44 X  _ _ _ _ h hp (lv_sub hl [] rfl)
          · have h := h.2 c6
            exact w_X8_isOf_34 X  _ _ _ _ _ _ h hp (lv_sub hl [3, 0] rfl)
set_option maxRecDepth 100000 in
theorem C_X8_isOf {E : EE} {l : Launch} {x1 : Int32} {x2 : Int32} {I : II} {Q : Int32 → II → Prop} (h : wp_X8_isOf x1 x2 I Q) : Met l yX8_isOf (Cond.code yX8_isOf cX8_isOf 4 (some .boolean) :: lwT) rmX8_isOf (va_Pc [.ref (E.2.1 315), .int x1, .int x2] (PU E I)) (va_Qi Q (BU E) E.2.2.2.1) 0 0 E.2.2.2.1 :=
  ofWalk [.ref (E.2.1 315), .int x1, .int x2] (by decide) tw_c_X8_isOf (Nat.le_of_ble_eq_true rfl) (fun p e s m below meth c ls X hp hl => w_X8_isOf_0 X _ _ _ _ _ _ h hp hl)
abbrev rmX8_as : Room := { frames := 2, cells := 0, slots := 0, locals := 46 }
theorem vf_X8_as : VF yX8_as RX8 cX8_as 3 (some .int) 2 := ⟨tw_in_X8, tw_im_X8_as, tw_se_X8_as, tw_c_X8_as, by decide, by decide, by decide +kernel⟩
def wp_X8_as (x1 : Int32) (x2 : Int32) (I : II) (Q : Int32 → II → Prop) : Prop := (wp_X8_isTeller x1 I (fun r2 I1 => ((r2 = 0 → (Q (-nI 1000001) I1)) ∧ (¬ r2 = 0 → (wp_X8_in x2.toInt64 (lN 0) (lN 5) I1 (fun r5 I4 => ((¬ r5 = 0 → (wp_X8_isOf x1 x2 I4 (fun r8 I7 => ((r8 = 0 → (wp_X8_find (nI 3) I7 (fun r11 I10 => (Q r11 I10)))) ∧ (¬ r8 = 0 → (wp_X8_well x1 I7 (fun r13 I12 => (Q r13 I12)))))))) ∧ (r5 = 0 → (Q (-nI 1000001) I4)))))))))
set_option maxHeartbeats 4000000 in
set_option maxRecDepth 100000 in
theorem w_X8_as_0 {E : EE} {p : Program} {l : Launch} {e : Env} {s : State} {m : MethodId} {args : Array Value} {below : List Frame} {meth : Method} {c : Code} {Q : Int32 → II → Prop} (X : CX E p s m args meth c cX8_as 3 (some .int) RX8) : ∀ (x1 : Int32) (x2 : Int32) (I : II) (H : Heap) (locs : List Loc) (ls : Array Slot), wp_X8_as x1 x2 I Q → PP E s H locs I → lv_has ls 3 [(0, .ref (E.2.1 315)), (1, .int x1), (2, .int x2)] → W p l e rmX8_as s m args below meth c H locs 0 0 (MQ below (va_Qi Q (BU E) E.2.2.2.1) args s 0 0 E.2.2.2.1) (F0 m 0 ls []) := by
  obtain ⟨⟨hx, hb, hml, hown, hts⟩, hr, hlk, hK, hST, hN⟩ := id X
  intro x1 x2 I H locs ls h hp hl
  unfold wp_X8_as at h
  refine lv_aload_n hx hb dX8_as_0 rfl (lv_at hl 0 rfl) ?_
  refine lv_iload_n hx hb dX8_as_1 rfl (lv_at hl 1 rfl) ?_
  refine ki (kV (As := [.int x1]) (rest := []) X hp (C_X8_isTeller  h) tw_ml_X8_175 vf_X8_isTeller ⟨rfl, rfl, Nat.le_of_ble_eq_true rfl, Nat.le_of_ble_eq_true rfl⟩ (pr_rcv X hp (k := 315) (by decide) (ob_315 _) (q := (RX8, TX8, 18)) rfl) rfl hl.1 rfl (Nat.le_of_ble_eq_true rfl) dX8_as_2) hp (fun r2 I1 H locs h hp => ?_)
  refine lv_if_eq (tgt := 20) hx hb dX8_as_5 (by decide) (fun c3 => ?_) (fun c3 => ?_)
  · have h := h.1 c3
    refine lv_ldc (v := (-nI 1000001)) hx hb hown (hts _ tw_k_X8_55) dX8_as_20 ?_
    exact rt_i X hp h dX8_as_22
  · have h := h.2 c3
    refine lv_iload_n hx hb dX8_as_8 rfl (lv_at hl 2 rfl) ?_
    refine lv_i2l (v := x2.toInt64) hx hb dX8_as_9 rfl ?_
    refine lv_lconst (v := (lN 0)) hx hb dX8_as_10 (by decide) ?_
    refine lv_ldc2 (v := (lN 5)) hx hb hown (hts _ tw_kl_X8_249) dX8_as_11 ?_
    refine ki (kS (As := [.long x2.toInt64, .long (lN 0), .long (lN 5)]) (rest := []) X hp (C_X8_in  h) tw_ml_X8_45 sf_X8_in ⟨rfl, rfl, Nat.le_of_ble_eq_true rfl, Nat.le_of_ble_eq_true rfl⟩ rfl hl.1 rfl (Nat.le_of_ble_eq_true rfl) dX8_as_14) hp (fun r5 I4 H locs h hp => ?_)
    refine lv_if_ne (tgt := 23) hx hb dX8_as_17 (by decide) (fun c6 => ?_) (fun c6 => ?_)
    · have h := h.1 c6
      refine lv_aload_n hx hb dX8_as_23 rfl (lv_at hl 0 rfl) ?_
      refine lv_iload_n hx hb dX8_as_24 rfl (lv_at hl 1 rfl) ?_
      refine lv_iload_n hx hb dX8_as_25 rfl (lv_at hl 2 rfl) ?_
      refine ki (kV (As := [.int x1, .int x2]) (rest := []) X hp (C_X8_isOf  h) tw_ml_X8_251 vf_X8_isOf ⟨rfl, rfl, Nat.le_of_ble_eq_true rfl, Nat.le_of_ble_eq_true rfl⟩ (pr_rcv X hp (k := 315) (by decide) (ob_315 _) (q := (RX8, TX8, 18)) rfl) rfl hl.1 rfl (Nat.le_of_ble_eq_true rfl) dX8_as_26) hp (fun r8 I7 H locs h hp => ?_)
      refine lv_if_eq (tgt := 40) hx hb dX8_as_29 (by decide) (fun c9 => ?_) (fun c9 => ?_)
      · have h := h.1 c9
        refine lv_aload_n hx hb dX8_as_40 rfl (lv_at hl 0 rfl) ?_
        refine lv_iconst (v := (nI 3)) hx hb dX8_as_41 (by decide) ?_
        refine ki (kV (As := [.int (nI 3)]) (rest := []) X hp (C_X8_find  h) tw_ml_X8_56 vf_X8_find ⟨rfl, rfl, Nat.le_of_ble_eq_true rfl, Nat.le_of_ble_eq_true rfl⟩ (pr_rcv X hp (k := 315) (by decide) (ob_315 _) (q := (RX8, TX8, 18)) rfl) rfl hl.1 rfl (Nat.le_of_ble_eq_true rfl) dX8_as_42) hp (fun r11 I10 H locs h hp => ?_)
        exact rt_i X hp h dX8_as_45
      · have h := h.2 c9
        refine lv_aload_n hx hb dX8_as_32 rfl (lv_at hl 0 rfl) ?_
        refine lv_iload_n hx hb dX8_as_33 rfl (lv_at hl 1 rfl) ?_
        refine ki (kV (As := [.int x1]) (rest := []) X hp (C_X8_well  h) tw_ml_X8_60 vf_X8_well ⟨rfl, rfl, Nat.le_of_ble_eq_true rfl, Nat.le_of_ble_eq_true rfl⟩ (pr_rcv X hp (k := 315) (by decide) (ob_315 _) (q := (RX8, TX8, 18)) rfl) rfl hl.1 rfl (Nat.le_of_ble_eq_true rfl) dX8_as_34) hp (fun r13 I12 H locs h hp => ?_)
        refine lv_goto (tgt := 45) hx hb dX8_as_37 (by decide) ?_
        exact rt_i X hp h dX8_as_45
    · have h := h.2 c6
      refine lv_ldc (v := (-nI 1000001)) hx hb hown (hts _ tw_k_X8_55) dX8_as_20 ?_
      exact rt_i X hp h dX8_as_22
set_option maxRecDepth 100000 in
theorem C_X8_as {E : EE} {l : Launch} {x1 : Int32} {x2 : Int32} {I : II} {Q : Int32 → II → Prop} (h : wp_X8_as x1 x2 I Q) : Met l yX8_as (Cond.code yX8_as cX8_as 3 (some .int) :: lwT) rmX8_as (va_Pc [.ref (E.2.1 315), .int x1, .int x2] (PU E I)) (va_Qi Q (BU E) E.2.2.2.1) 0 0 E.2.2.2.1 :=
  ofWalk [.ref (E.2.1 315), .int x1, .int x2] (by decide) tw_c_X8_as (Nat.le_of_ble_eq_true rfl) (fun p e s m below meth c ls X hp hl => w_X8_as_0 X _ _ _ _ _ _ h hp hl)
abbrev rmX8_begin : Room := { frames := 0, cells := 0, slots := 0, locals := 0 }
theorem vf_X8_begin : VF yX8_begin RX8 cX8_begin 2 none 1 := ⟨tw_in_X8, tw_im_X8_begin, tw_se_X8_begin, tw_c_X8_begin, by decide, by decide, by decide +kernel⟩
def wp_X8_begin (x1 : Int32) (I : II) (Q : II → Prop) : Prop := (((nI 16) ≤ (I 315 12) → (Q I)) ∧ (¬ (nI 16) ≤ (I 315 12) → (vp_in (I 315 12) 16 ∧ ∀ I3 : II, I3 = su I 322 (I 315 12).toNatClampNeg x1 → (∀ I5 : II, I5 = su I3 315 12 ((I3 315 12) + (nI 1)) → (Q I5)))))
set_option maxHeartbeats 4000000 in
set_option maxRecDepth 100000 in
theorem w_X8_begin_0 {E : EE} {p : Program} {l : Launch} {e : Env} {s : State} {m : MethodId} {args : Array Value} {below : List Frame} {meth : Method} {c : Code} {Q : II → Prop} (X : CX E p s m args meth c cX8_begin 2 none RX8) : ∀ (x1 : Int32) (I : II) (H : Heap) (locs : List Loc) (ls : Array Slot), wp_X8_begin x1 I Q → PP E s H locs I → lv_has ls 2 [(0, .ref (E.2.1 315)), (1, .int x1)] → W p l e rmX8_begin s m args below meth c H locs 0 0 (MQ below (va_Qv Q (BU E) E.2.2.2.1) args s 0 0 E.2.2.2.1) (F0 m 0 ls []) := by
  obtain ⟨⟨hx, hb, hml, hown, hts⟩, hr, hlk, hK, hST, hN⟩ := id X
  intro x1 I H locs ls h hp hl
  unfold wp_X8_begin at h
  refine lv_aload_n hx hb dX8_begin_0 rfl (lv_at hl 0 rfl) ?_
  refine f_X8_254 X hp dX8_begin_1 ?_
  refine lv_bipush (v := (nI 16)) hx hb dX8_begin_4 (by decide) ?_
  refine lv_icmp_ge (tgt := 29) hx hb dX8_begin_6 (by decide) (fun c1 => ?_) (fun c1 => ?_)
  · have h := h.1 c1
    exact rt_v X hp h dX8_begin_29
  · have h := h.2 c1
    refine lv_aload_n hx hb dX8_begin_9 rfl (lv_at hl 0 rfl) ?_
    refine f_X8_29 X hp dX8_begin_10 ?_
    refine lv_aload_n hx hb dX8_begin_13 rfl (lv_at hl 0 rfl) ?_
    refine f_X8_254 X hp dX8_begin_14 ?_
    refine lv_iload_n hx hb dX8_begin_17 rfl (lv_at hl 1 rfl) ?_
    have hv2 := h.1
    have h := h.2
    refine as_i X hp ar_s322 hv2 dX8_begin_18 (fun H locs hp => ?_)
    obtain ⟨I3, e4⟩ : ∃ y, y = su I 322 (I 315 12).toNatClampNeg x1 := ⟨_, rfl⟩
    have hp : PP E s H locs I3 := by rw [e4]; exact hp
    have h := h I3 e4
    refine lv_aload_n hx hb dX8_begin_19 rfl (lv_at hl 0 rfl) ?_
    refine lv_dup hx hb dX8_begin_20 rfl ?_
    refine f_X8_254 X hp dX8_begin_21 ?_
    refine lv_iconst (v := (nI 1)) hx hb dX8_begin_24 (by decide) ?_
    refine lv_iadd hx hb dX8_begin_25 ?_
    refine g_X8_254 X hp dX8_begin_26 (fun H locs hp => ?_)
    obtain ⟨I5, e6⟩ : ∃ y, y = su I3 315 12 ((I3 315 12) + (nI 1)) := ⟨_, rfl⟩
    have hp : PP E s H locs I5 := by rw [e6]; exact hp
    have h := h I5 e6
    exact rt_v X hp h dX8_begin_29
set_option maxRecDepth 100000 in
theorem C_X8_begin {E : EE} {l : Launch} {x1 : Int32} {I : II} {Q : II → Prop} (h : wp_X8_begin x1 I Q) : Met l yX8_begin (Cond.code yX8_begin cX8_begin 2 none :: lwT) rmX8_begin (va_Pc [.ref (E.2.1 315), .int x1] (PU E I)) (va_Qv Q (BU E) E.2.2.2.1) 0 0 E.2.2.2.1 :=
  ofWalk [.ref (E.2.1 315), .int x1] (by decide) tw_c_X8_begin (Nat.le_of_ble_eq_true rfl) (fun p e s m below meth c ls X hp hl => w_X8_begin_0 X _ _ _ _ _ h hp hl)
abbrev rmX8_lentSize : Room := { frames := 1, cells := 0, slots := 0, locals := 21 }
theorem vf_X8_lentSize : VF yX8_lentSize RX8 cX8_lentSize 2 (some .int) 1 := ⟨tw_in_X8, tw_im_X8_lentSize, tw_se_X8_lentSize, tw_c_X8_lentSize, by decide, by decide, by decide +kernel⟩
def wp_X8_lentSize (x1 : Int32) (I : II) (Q : Int32 → II → Prop) : Prop := (wp_X8_begin (nI 10) I (fun I1 => (vp_in ((nI 37) + x1) 1372 ∧ (Q (I1 316 ((nI 37) + x1).toNatClampNeg) I1))))
set_option maxHeartbeats 4000000 in
set_option maxRecDepth 100000 in
theorem w_X8_lentSize_0 {E : EE} {p : Program} {l : Launch} {e : Env} {s : State} {m : MethodId} {args : Array Value} {below : List Frame} {meth : Method} {c : Code} {Q : Int32 → II → Prop} (X : CX E p s m args meth c cX8_lentSize 2 (some .int) RX8) : ∀ (x1 : Int32) (I : II) (H : Heap) (locs : List Loc) (ls : Array Slot), wp_X8_lentSize x1 I Q → PP E s H locs I → lv_has ls 2 [(0, .ref (E.2.1 315)), (1, .int x1)] → W p l e rmX8_lentSize s m args below meth c H locs 0 0 (MQ below (va_Qi Q (BU E) E.2.2.2.1) args s 0 0 E.2.2.2.1) (F0 m 0 ls []) := by
  obtain ⟨⟨hx, hb, hml, hown, hts⟩, hr, hlk, hK, hST, hN⟩ := id X
  intro x1 I H locs ls h hp hl
  unfold wp_X8_lentSize at h
  refine lv_aload_n hx hb dX8_lentSize_0 rfl (lv_at hl 0 rfl) ?_
  refine lv_bipush (v := (nI 10)) hx hb dX8_lentSize_1 (by decide) ?_
  refine kv (kV (As := [.int (nI 10)]) (rest := []) X hp (C_X8_begin  h) tw_ml_X8_257 vf_X8_begin ⟨rfl, rfl, Nat.le_of_ble_eq_true rfl, Nat.le_of_ble_eq_true rfl⟩ (pr_rcv X hp (k := 315) (by decide) (ob_315 _) (q := (RX8, TX8, 18)) rfl) rfl hl.1 rfl (Nat.le_of_ble_eq_true rfl) dX8_lentSize_3) hp (fun I1 H locs h hp => ?_)
  refine lv_aload_n hx hb dX8_lentSize_6 rfl (lv_at hl 0 rfl) ?_
  refine f_X8_7 X hp dX8_lentSize_7 ?_
  refine lv_bipush (v := (nI 37)) hx hb dX8_lentSize_10 (by decide) ?_
  refine lv_iload_n hx hb dX8_lentSize_12 rfl (lv_at hl 1 rfl) ?_
  refine lv_iadd hx hb dX8_lentSize_13 ?_
  have hv3 := h.1
  have h := h.2
  refine al_i X hp ar_s316 hv3 dX8_lentSize_14 ?_
  exact rt_i X hp h dX8_lentSize_15
set_option maxRecDepth 100000 in
theorem C_X8_lentSize {E : EE} {l : Launch} {x1 : Int32} {I : II} {Q : Int32 → II → Prop} (h : wp_X8_lentSize x1 I Q) : Met l yX8_lentSize (Cond.code yX8_lentSize cX8_lentSize 2 (some .int) :: lwT) rmX8_lentSize (va_Pc [.ref (E.2.1 315), .int x1] (PU E I)) (va_Qi Q (BU E) E.2.2.2.1) 0 0 E.2.2.2.1 :=
  ofWalk [.ref (E.2.1 315), .int x1] (by decide) tw_c_X8_lentSize (Nat.le_of_ble_eq_true rfl) (fun p e s m below meth c ls X hp hl => w_X8_lentSize_0 X _ _ _ _ _ h hp hl)
abbrev rmX8_lentMark : Room := { frames := 1, cells := 0, slots := 0, locals := 21 }
theorem vf_X8_lentMark : VF yX8_lentMark RX8 cX8_lentMark 2 (some .int) 1 := ⟨tw_in_X8, tw_im_X8_lentMark, tw_se_X8_lentMark, tw_c_X8_lentMark, by decide, by decide, by decide +kernel⟩
def wp_X8_lentMark (x1 : Int32) (I : II) (Q : Int32 → II → Prop) : Prop := (wp_X8_begin (nI 20) I (fun I1 => (Q x1 I1)))
set_option maxHeartbeats 4000000 in
set_option maxRecDepth 100000 in
theorem w_X8_lentMark_0 {E : EE} {p : Program} {l : Launch} {e : Env} {s : State} {m : MethodId} {args : Array Value} {below : List Frame} {meth : Method} {c : Code} {Q : Int32 → II → Prop} (X : CX E p s m args meth c cX8_lentMark 2 (some .int) RX8) : ∀ (x1 : Int32) (I : II) (H : Heap) (locs : List Loc) (ls : Array Slot), wp_X8_lentMark x1 I Q → PP E s H locs I → lv_has ls 2 [(0, .ref (E.2.1 315)), (1, .int x1)] → W p l e rmX8_lentMark s m args below meth c H locs 0 0 (MQ below (va_Qi Q (BU E) E.2.2.2.1) args s 0 0 E.2.2.2.1) (F0 m 0 ls []) := by
  obtain ⟨⟨hx, hb, hml, hown, hts⟩, hr, hlk, hK, hST, hN⟩ := id X
  intro x1 I H locs ls h hp hl
  unfold wp_X8_lentMark at h
  refine lv_aload_n hx hb dX8_lentMark_0 rfl (lv_at hl 0 rfl) ?_
  refine lv_bipush (v := (nI 20)) hx hb dX8_lentMark_1 (by decide) ?_
  refine kv (kV (As := [.int (nI 20)]) (rest := []) X hp (C_X8_begin  h) tw_ml_X8_257 vf_X8_begin ⟨rfl, rfl, Nat.le_of_ble_eq_true rfl, Nat.le_of_ble_eq_true rfl⟩ (pr_rcv X hp (k := 315) (by decide) (ob_315 _) (q := (RX8, TX8, 18)) rfl) rfl hl.1 rfl (Nat.le_of_ble_eq_true rfl) dX8_lentMark_3) hp (fun I1 H locs h hp => ?_)
  refine lv_iload_n hx hb dX8_lentMark_6 rfl (lv_at hl 1 rfl) ?_
  exact rt_i X hp h dX8_lentMark_7
set_option maxRecDepth 100000 in
theorem C_X8_lentMark {E : EE} {l : Launch} {x1 : Int32} {I : II} {Q : Int32 → II → Prop} (h : wp_X8_lentMark x1 I Q) : Met l yX8_lentMark (Cond.code yX8_lentMark cX8_lentMark 2 (some .int) :: lwT) rmX8_lentMark (va_Pc [.ref (E.2.1 315), .int x1] (PU E I)) (va_Qi Q (BU E) E.2.2.2.1) 0 0 E.2.2.2.1 :=
  ofWalk [.ref (E.2.1 315), .int x1] (by decide) tw_c_X8_lentMark (Nat.le_of_ble_eq_true rfl) (fun p e s m below meth c ls X hp hl => w_X8_lentMark_0 X _ _ _ _ _ h hp hl)
abbrev rmX8_carefulMark : Room := { frames := 2, cells := 0, slots := 0, locals := 42 }
theorem vf_X8_carefulMark : VF yX8_carefulMark RX8 cX8_carefulMark 2 (some .int) 1 := ⟨tw_in_X8, tw_im_X8_carefulMark, tw_se_X8_carefulMark, tw_c_X8_carefulMark, by decide, by decide, by decide +kernel⟩
def wp_X8_carefulMark (x1 : Int32) (I : II) (Q : Int32 → II → Prop) : Prop := (wp_X8_begin (nI 21) I (fun I1 => (wp_X8_lentMark x1 I1 (fun r4 I3 => (vp_in ((nI 41) + x1) 1372 ∧ (Q (r4 + (I3 316 ((nI 41) + x1).toNatClampNeg)) I3))))))
set_option maxHeartbeats 4000000 in
set_option maxRecDepth 100000 in
theorem w_X8_carefulMark_0 {E : EE} {p : Program} {l : Launch} {e : Env} {s : State} {m : MethodId} {args : Array Value} {below : List Frame} {meth : Method} {c : Code} {Q : Int32 → II → Prop} (X : CX E p s m args meth c cX8_carefulMark 2 (some .int) RX8) : ∀ (x1 : Int32) (I : II) (H : Heap) (locs : List Loc) (ls : Array Slot), wp_X8_carefulMark x1 I Q → PP E s H locs I → lv_has ls 2 [(0, .ref (E.2.1 315)), (1, .int x1)] → W p l e rmX8_carefulMark s m args below meth c H locs 0 0 (MQ below (va_Qi Q (BU E) E.2.2.2.1) args s 0 0 E.2.2.2.1) (F0 m 0 ls []) := by
  obtain ⟨⟨hx, hb, hml, hown, hts⟩, hr, hlk, hK, hST, hN⟩ := id X
  intro x1 I H locs ls h hp hl
  unfold wp_X8_carefulMark at h
  refine lv_aload_n hx hb dX8_carefulMark_0 rfl (lv_at hl 0 rfl) ?_
  refine lv_bipush (v := (nI 21)) hx hb dX8_carefulMark_1 (by decide) ?_
  refine kv (kV (As := [.int (nI 21)]) (rest := []) X hp (C_X8_begin  h) tw_ml_X8_257 vf_X8_begin ⟨rfl, rfl, Nat.le_of_ble_eq_true rfl, Nat.le_of_ble_eq_true rfl⟩ (pr_rcv X hp (k := 315) (by decide) (ob_315 _) (q := (RX8, TX8, 18)) rfl) rfl hl.1 rfl (Nat.le_of_ble_eq_true rfl) dX8_carefulMark_3) hp (fun I1 H locs h hp => ?_)
  refine lv_aload_n hx hb dX8_carefulMark_6 rfl (lv_at hl 0 rfl) ?_
  refine lv_iload_n hx hb dX8_carefulMark_7 rfl (lv_at hl 1 rfl) ?_
  refine ki (kV (As := [.int x1]) (rest := []) X hp (C_X8_lentMark  h) tw_ml_X8_272 vf_X8_lentMark ⟨rfl, rfl, Nat.le_of_ble_eq_true rfl, Nat.le_of_ble_eq_true rfl⟩ (pr_rcv X hp (k := 315) (by decide) (ob_315 _) (q := (RX8, TX8, 18)) rfl) rfl hl.1 rfl (Nat.le_of_ble_eq_true rfl) dX8_carefulMark_8) hp (fun r4 I3 H locs h hp => ?_)
  refine lv_aload_n hx hb dX8_carefulMark_11 rfl (lv_at hl 0 rfl) ?_
  refine f_X8_7 X hp dX8_carefulMark_12 ?_
  refine lv_bipush (v := (nI 41)) hx hb dX8_carefulMark_15 (by decide) ?_
  refine lv_iload_n hx hb dX8_carefulMark_17 rfl (lv_at hl 1 rfl) ?_
  refine lv_iadd hx hb dX8_carefulMark_18 ?_
  have hv5 := h.1
  have h := h.2
  refine al_i X hp ar_s316 hv5 dX8_carefulMark_19 ?_
  refine lv_iadd hx hb dX8_carefulMark_20 ?_
  exact rt_i X hp h dX8_carefulMark_21
set_option maxRecDepth 100000 in
theorem C_X8_carefulMark {E : EE} {l : Launch} {x1 : Int32} {I : II} {Q : Int32 → II → Prop} (h : wp_X8_carefulMark x1 I Q) : Met l yX8_carefulMark (Cond.code yX8_carefulMark cX8_carefulMark 2 (some .int) :: lwT) rmX8_carefulMark (va_Pc [.ref (E.2.1 315), .int x1] (PU E I)) (va_Qi Q (BU E) E.2.2.2.1) 0 0 E.2.2.2.1 :=
  ofWalk [.ref (E.2.1 315), .int x1] (by decide) tw_c_X8_carefulMark (Nat.le_of_ble_eq_true rfl) (fun p e s m below meth c ls X hp hl => w_X8_carefulMark_0 X _ _ _ _ _ h hp hl)
abbrev rmX8_mark : Room := { frames := 3, cells := 0, slots := 0, locals := 63 }
theorem vf_X8_mark : VF yX8_mark RX8 cX8_mark 2 (some .int) 1 := ⟨tw_in_X8, tw_im_X8_mark, tw_se_X8_mark, tw_c_X8_mark, by decide, by decide, by decide +kernel⟩
def wp_X8_mark (x1 : Int32) (I : II) (Q : Int32 → II → Prop) : Prop := (vp_in ((nI 29) + x1) 1372 ∧ (((I 316 ((nI 29) + x1).toNatClampNeg) = (nI 2) → (wp_X8_begin (nI 24) I (fun I3 => (wp_X8_carefulMark x1 I3 (fun r6 I5 => (Q ((nI 2) * r6) I5)))))) ∧ ((I 316 ((nI 29) + x1).toNatClampNeg) = (nI 3) → (wp_X8_begin (nI 22) I (fun I8 => (wp_X8_carefulMark x1 I8 (fun r11 I10 => (Q (r11 - (nI 1000)) I10)))))) ∧ (¬ (I 316 ((nI 29) + x1).toNatClampNeg) = (nI 2) → ¬ (I 316 ((nI 29) + x1).toNatClampNeg) = (nI 3) → (wp_X8_carefulMark x1 I (fun r13 I12 => (Q r13 I12))))))
set_option maxHeartbeats 4000000 in
set_option maxRecDepth 100000 in
theorem w_X8_mark_0 {E : EE} {p : Program} {l : Launch} {e : Env} {s : State} {m : MethodId} {args : Array Value} {below : List Frame} {meth : Method} {c : Code} {Q : Int32 → II → Prop} (X : CX E p s m args meth c cX8_mark 2 (some .int) RX8) : ∀ (x1 : Int32) (I : II) (H : Heap) (locs : List Loc) (ls : Array Slot), wp_X8_mark x1 I Q → PP E s H locs I → lv_has ls 2 [(0, .ref (E.2.1 315)), (1, .int x1)] → W p l e rmX8_mark s m args below meth c H locs 0 0 (MQ below (va_Qi Q (BU E) E.2.2.2.1) args s 0 0 E.2.2.2.1) (F0 m 0 ls []) := by
  obtain ⟨⟨hx, hb, hml, hown, hts⟩, hr, hlk, hK, hST, hN⟩ := id X
  intro x1 I H locs ls h hp hl
  unfold wp_X8_mark at h
  refine lv_aload_n hx hb dX8_mark_0 rfl (lv_at hl 0 rfl) ?_
  refine f_X8_7 X hp dX8_mark_1 ?_
  refine lv_bipush (v := (nI 29)) hx hb dX8_mark_4 (by decide) ?_
  refine lv_iload_n hx hb dX8_mark_6 rfl (lv_at hl 1 rfl) ?_
  refine lv_iadd hx hb dX8_mark_7 ?_
  have hv1 := h.1
  have h := h.2
  refine al_i X hp ar_s316 hv1 dX8_mark_8 ?_
  by_cases c2 : (I 316 ((nI 29) + x1).toNatClampNeg) = (nI 2)
  · have h := h.1 c2
    refine lv_lookup (off := 43) (tgt := 52) hx hb dX8_mark_9 (by decide) (by rw [c2]; rfl) (by decide) ?_
    refine lv_aload_n hx hb dX8_mark_52 rfl (lv_at hl 0 rfl) ?_
    refine lv_bipush (v := (nI 24)) hx hb dX8_mark_53 (by decide) ?_
    refine kv (kV (As := [.int (nI 24)]) (rest := []) X hp (C_X8_begin  h) tw_ml_X8_257 vf_X8_begin ⟨rfl, rfl, Nat.le_of_ble_eq_true rfl, Nat.le_of_ble_eq_true rfl⟩ (pr_rcv X hp (k := 315) (by decide) (ob_315 _) (q := (RX8, TX8, 18)) rfl) rfl hl.1 rfl (Nat.le_of_ble_eq_true rfl) dX8_mark_55) hp (fun I3 H locs h hp => ?_)
    refine lv_iconst (v := (nI 2)) hx hb dX8_mark_58 (by decide) ?_
    refine lv_aload_n hx hb dX8_mark_59 rfl (lv_at hl 0 rfl) ?_
    refine lv_iload_n hx hb dX8_mark_60 rfl (lv_at hl 1 rfl) ?_
    refine ki (kV (As := [.int x1]) (rest := [.int (nI 2)]) X hp (C_X8_carefulMark  h) tw_ml_X8_275 vf_X8_carefulMark ⟨rfl, rfl, Nat.le_of_ble_eq_true rfl, Nat.le_of_ble_eq_true rfl⟩ (pr_rcv X hp (k := 315) (by decide) (ob_315 _) (q := (RX8, TX8, 18)) rfl) rfl hl.1 rfl (Nat.le_of_ble_eq_true rfl) dX8_mark_61) hp (fun r6 I5 H locs h hp => ?_)
    refine lv_imul hx hb dX8_mark_64 ?_
    exact rt_i X hp h dX8_mark_65
  have h := h.2
  by_cases c7 : (I 316 ((nI 29) + x1).toNatClampNeg) = (nI 3)
  · have h := h.1 c7
    refine lv_lookup (off := 27) (tgt := 36) hx hb dX8_mark_9 (by decide) (by rw [c7]; rfl) (by decide) ?_
    refine lv_aload_n hx hb dX8_mark_36 rfl (lv_at hl 0 rfl) ?_
    refine lv_bipush (v := (nI 22)) hx hb dX8_mark_37 (by decide) ?_
    refine kv (kV (As := [.int (nI 22)]) (rest := []) X hp (C_X8_begin  h) tw_ml_X8_257 vf_X8_begin ⟨rfl, rfl, Nat.le_of_ble_eq_true rfl, Nat.le_of_ble_eq_true rfl⟩ (pr_rcv X hp (k := 315) (by decide) (ob_315 _) (q := (RX8, TX8, 18)) rfl) rfl hl.1 rfl (Nat.le_of_ble_eq_true rfl) dX8_mark_39) hp (fun I8 H locs h hp => ?_)
    refine lv_aload_n hx hb dX8_mark_42 rfl (lv_at hl 0 rfl) ?_
    refine lv_iload_n hx hb dX8_mark_43 rfl (lv_at hl 1 rfl) ?_
    refine ki (kV (As := [.int x1]) (rest := []) X hp (C_X8_carefulMark  h) tw_ml_X8_275 vf_X8_carefulMark ⟨rfl, rfl, Nat.le_of_ble_eq_true rfl, Nat.le_of_ble_eq_true rfl⟩ (pr_rcv X hp (k := 315) (by decide) (ob_315 _) (q := (RX8, TX8, 18)) rfl) rfl hl.1 rfl (Nat.le_of_ble_eq_true rfl) dX8_mark_44) hp (fun r11 I10 H locs h hp => ?_)
    refine lv_sipush (v := (nI 1000)) hx hb dX8_mark_47 (by decide) ?_
    refine lv_isub hx hb dX8_mark_50 ?_
    exact rt_i X hp h dX8_mark_51
  have h := h.2
  have h := h c2 c7
  refine lv_lookup (off := 57) (tgt := 66) hx hb dX8_mark_9 (by decide) (by show Op.lookupswitch.offset [(2, 43), (3, 27)] _ _ = _; rw [lv_osw c2 (by decide), lv_osw c7 (by decide)]; rfl) (by decide) ?_
  refine lv_aload_n hx hb dX8_mark_66 rfl (lv_at hl 0 rfl) ?_
  refine lv_iload_n hx hb dX8_mark_67 rfl (lv_at hl 1 rfl) ?_
  refine ki (kV (As := [.int x1]) (rest := []) X hp (C_X8_carefulMark  h) tw_ml_X8_275 vf_X8_carefulMark ⟨rfl, rfl, Nat.le_of_ble_eq_true rfl, Nat.le_of_ble_eq_true rfl⟩ (pr_rcv X hp (k := 315) (by decide) (ob_315 _) (q := (RX8, TX8, 18)) rfl) rfl hl.1 rfl (Nat.le_of_ble_eq_true rfl) dX8_mark_68) hp (fun r13 I12 H locs h hp => ?_)
  exact rt_i X hp h dX8_mark_71
set_option maxRecDepth 100000 in
theorem C_X8_mark {E : EE} {l : Launch} {x1 : Int32} {I : II} {Q : Int32 → II → Prop} (h : wp_X8_mark x1 I Q) : Met l yX8_mark (Cond.code yX8_mark cX8_mark 2 (some .int) :: lwT) rmX8_mark (va_Pc [.ref (E.2.1 315), .int x1] (PU E I)) (va_Qi Q (BU E) E.2.2.2.1) 0 0 E.2.2.2.1 :=
  ofWalk [.ref (E.2.1 315), .int x1] (by decide) tw_c_X8_mark (Nat.le_of_ble_eq_true rfl) (fun p e s m below meth c ls X hp hl => w_X8_mark_0 X _ _ _ _ _ h hp hl)
abbrev rmX8_carefulSize : Room := { frames := 4, cells := 0, slots := 0, locals := 84 }
theorem vf_X8_carefulSize : VF yX8_carefulSize RX8 cX8_carefulSize 3 (some .int) 1 := ⟨tw_in_X8, tw_im_X8_carefulSize, tw_se_X8_carefulSize, tw_c_X8_carefulSize, by decide, by decide, by decide +kernel⟩
def wp_X8_carefulSize (x1 : Int32) (I : II) (Q : Int32 → II → Prop) : Prop := (wp_X8_begin (nI 11) I (fun I1 => (wp_X8_lentSize x1 I1 (fun r4 I3 => (wp_X8_mark x1 I3 (fun r6 I5 => (Q (r4 + r6) I5)))))))
set_option maxHeartbeats 4000000 in
set_option maxRecDepth 100000 in
theorem w_X8_carefulSize_0 {E : EE} {p : Program} {l : Launch} {e : Env} {s : State} {m : MethodId} {args : Array Value} {below : List Frame} {meth : Method} {c : Code} {Q : Int32 → II → Prop} (X : CX E p s m args meth c cX8_carefulSize 3 (some .int) RX8) : ∀ (x1 : Int32) (I : II) (H : Heap) (locs : List Loc) (ls : Array Slot), wp_X8_carefulSize x1 I Q → PP E s H locs I → lv_has ls 3 [(0, .ref (E.2.1 315)), (1, .int x1)] → W p l e rmX8_carefulSize s m args below meth c H locs 0 0 (MQ below (va_Qi Q (BU E) E.2.2.2.1) args s 0 0 E.2.2.2.1) (F0 m 0 ls []) := by
  obtain ⟨⟨hx, hb, hml, hown, hts⟩, hr, hlk, hK, hST, hN⟩ := id X
  intro x1 I H locs ls h hp hl
  unfold wp_X8_carefulSize at h
  refine lv_aload_n hx hb dX8_carefulSize_0 rfl (lv_at hl 0 rfl) ?_
  refine lv_bipush (v := (nI 11)) hx hb dX8_carefulSize_1 (by decide) ?_
  refine kv (kV (As := [.int (nI 11)]) (rest := []) X hp (C_X8_begin  h) tw_ml_X8_257 vf_X8_begin ⟨rfl, rfl, Nat.le_of_ble_eq_true rfl, Nat.le_of_ble_eq_true rfl⟩ (pr_rcv X hp (k := 315) (by decide) (ob_315 _) (q := (RX8, TX8, 18)) rfl) rfl hl.1 rfl (Nat.le_of_ble_eq_true rfl) dX8_carefulSize_3) hp (fun I1 H locs h hp => ?_)
  refine lv_aload_n hx hb dX8_carefulSize_6 rfl (lv_at hl 0 rfl) ?_
  refine lv_iload_n hx hb dX8_carefulSize_7 rfl (lv_at hl 1 rfl) ?_
  refine ki (kV (As := [.int x1]) (rest := []) X hp (C_X8_lentSize  h) tw_ml_X8_260 vf_X8_lentSize ⟨rfl, rfl, Nat.le_of_ble_eq_true rfl, Nat.le_of_ble_eq_true rfl⟩ (pr_rcv X hp (k := 315) (by decide) (ob_315 _) (q := (RX8, TX8, 18)) rfl) rfl hl.1 rfl (Nat.le_of_ble_eq_true rfl) dX8_carefulSize_8) hp (fun r4 I3 H locs h hp => ?_)
  refine lv_istore_n (lv' := [(2, .int r4), (0, .ref (E.2.1 315)), (1, .int x1)]) hx hb dX8_carefulSize_11 rfl hl (by decide) rfl (fun ls hl => ?_)
  refine lv_iload_n hx hb dX8_carefulSize_12 rfl (lv_at hl 0 rfl) ?_
  refine lv_aload_n hx hb dX8_carefulSize_13 rfl (lv_at hl 1 rfl) ?_
  refine lv_iload_n hx hb dX8_carefulSize_14 rfl (lv_at hl 2 rfl) ?_
  refine ki (kV (As := [.int x1]) (rest := [.int r4]) X hp (C_X8_mark  h) tw_ml_X8_263 vf_X8_mark ⟨rfl, rfl, Nat.le_of_ble_eq_true rfl, Nat.le_of_ble_eq_true rfl⟩ (pr_rcv X hp (k := 315) (by decide) (ob_315 _) (q := (RX8, TX8, 18)) rfl) rfl hl.1 rfl (Nat.le_of_ble_eq_true rfl) dX8_carefulSize_15) hp (fun r6 I5 H locs h hp => ?_)
  refine lv_iadd hx hb dX8_carefulSize_18 ?_
  exact rt_i X hp h dX8_carefulSize_19
set_option maxRecDepth 100000 in
theorem C_X8_carefulSize {E : EE} {l : Launch} {x1 : Int32} {I : II} {Q : Int32 → II → Prop} (h : wp_X8_carefulSize x1 I Q) : Met l yX8_carefulSize (Cond.code yX8_carefulSize cX8_carefulSize 3 (some .int) :: lwT) rmX8_carefulSize (va_Pc [.ref (E.2.1 315), .int x1] (PU E I)) (va_Qi Q (BU E) E.2.2.2.1) 0 0 E.2.2.2.1 :=
  ofWalk [.ref (E.2.1 315), .int x1] (by decide) tw_c_X8_carefulSize (Nat.le_of_ble_eq_true rfl) (fun p e s m below meth c ls X hp hl => w_X8_carefulSize_0 X _ _ _ _ _ h hp hl)
abbrev rmX8_youngSize : Room := { frames := 2, cells := 0, slots := 0, locals := 42 }
theorem vf_X8_youngSize : VF yX8_youngSize RX8 cX8_youngSize 2 (some .int) 1 := ⟨tw_in_X8, tw_im_X8_youngSize, tw_se_X8_youngSize, tw_c_X8_youngSize, by decide, by decide, by decide +kernel⟩
def wp_X8_youngSize (x1 : Int32) (I : II) (Q : Int32 → II → Prop) : Prop := (wp_X8_begin (nI 13) I (fun I1 => (wp_X8_lentSize x1 I1 (fun r4 I3 => (Q (r4 - (nI 100)) I3)))))
set_option maxHeartbeats 4000000 in
set_option maxRecDepth 100000 in
theorem w_X8_youngSize_0 {E : EE} {p : Program} {l : Launch} {e : Env} {s : State} {m : MethodId} {args : Array Value} {below : List Frame} {meth : Method} {c : Code} {Q : Int32 → II → Prop} (X : CX E p s m args meth c cX8_youngSize 2 (some .int) RX8) : ∀ (x1 : Int32) (I : II) (H : Heap) (locs : List Loc) (ls : Array Slot), wp_X8_youngSize x1 I Q → PP E s H locs I → lv_has ls 2 [(0, .ref (E.2.1 315)), (1, .int x1)] → W p l e rmX8_youngSize s m args below meth c H locs 0 0 (MQ below (va_Qi Q (BU E) E.2.2.2.1) args s 0 0 E.2.2.2.1) (F0 m 0 ls []) := by
  obtain ⟨⟨hx, hb, hml, hown, hts⟩, hr, hlk, hK, hST, hN⟩ := id X
  intro x1 I H locs ls h hp hl
  unfold wp_X8_youngSize at h
  refine lv_aload_n hx hb dX8_youngSize_0 rfl (lv_at hl 0 rfl) ?_
  refine lv_bipush (v := (nI 13)) hx hb dX8_youngSize_1 (by decide) ?_
  refine kv (kV (As := [.int (nI 13)]) (rest := []) X hp (C_X8_begin  h) tw_ml_X8_257 vf_X8_begin ⟨rfl, rfl, Nat.le_of_ble_eq_true rfl, Nat.le_of_ble_eq_true rfl⟩ (pr_rcv X hp (k := 315) (by decide) (ob_315 _) (q := (RX8, TX8, 18)) rfl) rfl hl.1 rfl (Nat.le_of_ble_eq_true rfl) dX8_youngSize_3) hp (fun I1 H locs h hp => ?_)
  refine lv_aload_n hx hb dX8_youngSize_6 rfl (lv_at hl 0 rfl) ?_
  refine lv_iload_n hx hb dX8_youngSize_7 rfl (lv_at hl 1 rfl) ?_
  refine ki (kV (As := [.int x1]) (rest := []) X hp (C_X8_lentSize  h) tw_ml_X8_260 vf_X8_lentSize ⟨rfl, rfl, Nat.le_of_ble_eq_true rfl, Nat.le_of_ble_eq_true rfl⟩ (pr_rcv X hp (k := 315) (by decide) (ob_315 _) (q := (RX8, TX8, 18)) rfl) rfl hl.1 rfl (Nat.le_of_ble_eq_true rfl) dX8_youngSize_8) hp (fun r4 I3 H locs h hp => ?_)
  refine lv_bipush (v := (nI 100)) hx hb dX8_youngSize_11 (by decide) ?_
  refine lv_isub hx hb dX8_youngSize_13 ?_
  exact rt_i X hp h dX8_youngSize_14
set_option maxRecDepth 100000 in
theorem C_X8_youngSize {E : EE} {l : Launch} {x1 : Int32} {I : II} {Q : Int32 → II → Prop} (h : wp_X8_youngSize x1 I Q) : Met l yX8_youngSize (Cond.code yX8_youngSize cX8_youngSize 2 (some .int) :: lwT) rmX8_youngSize (va_Pc [.ref (E.2.1 315), .int x1] (PU E I)) (va_Qi Q (BU E) E.2.2.2.1) 0 0 E.2.2.2.1 :=
  ofWalk [.ref (E.2.1 315), .int x1] (by decide) tw_c_X8_youngSize (Nat.le_of_ble_eq_true rfl) (fun p e s m below meth c ls X hp hl => w_X8_youngSize_0 X _ _ _ _ _ h hp hl)
abbrev rmX8_sizeOf : Room := { frames := 5, cells := 0, slots := 0, locals := 106 }
theorem vf_X8_sizeOf : VF yX8_sizeOf RX8 cX8_sizeOf 2 (some .int) 1 := ⟨tw_in_X8, tw_im_X8_sizeOf, tw_se_X8_sizeOf, tw_c_X8_sizeOf, by decide, by decide, by decide +kernel⟩
def wp_X8_sizeOf_73 (Q : Int32 → II → Prop) (x1 : Int32) (I : II) : Prop := (wp_X8_carefulSize x1 I (fun r2 I1 => (Q r2 I1)))
set_option maxHeartbeats 4000000 in
set_option maxRecDepth 100000 in
theorem w_X8_sizeOf_73 {E : EE} {p : Program} {l : Launch} {e : Env} {s : State} {m : MethodId} {args : Array Value} {below : List Frame} {meth : Method} {c : Code} {Q : Int32 → II → Prop} (X : CX E p s m args meth c cX8_sizeOf 2 (some .int) RX8) : ∀ (x1 : Int32) (I : II) (H : Heap) (locs : List Loc) (ls : Array Slot), wp_X8_sizeOf_73 Q x1 I → PP E s H locs I → lv_has ls 2 [(0, .ref (E.2.1 315)), (1, .int x1)] → W p l e rmX8_sizeOf s m args below meth c H locs 0 0 (MQ below (va_Qi Q (BU E) E.2.2.2.1) args s 0 0 E.2.2.2.1) (F0 m 73 ls []) := by
  obtain ⟨⟨hx, hb, hml, hown, hts⟩, hr, hlk, hK, hST, hN⟩ := id X
  intro x1 I H locs ls h hp hl
  unfold wp_X8_sizeOf_73 at h
  refine lv_aload_n hx hb dX8_sizeOf_73 rfl (lv_at hl 0 rfl) ?_
  refine lv_iload_n hx hb dX8_sizeOf_74 rfl (lv_at hl 1 rfl) ?_
  refine ki (kV (As := [.int x1]) (rest := []) X hp (C_X8_carefulSize  h) tw_ml_X8_266 vf_X8_carefulSize ⟨rfl, rfl, Nat.le_of_ble_eq_true rfl, Nat.le_of_ble_eq_true rfl⟩ (pr_rcv X hp (k := 315) (by decide) (ob_315 _) (q := (RX8, TX8, 18)) rfl) rfl hl.1 rfl (Nat.le_of_ble_eq_true rfl) dX8_sizeOf_75) hp (fun r2 I1 H locs h hp => ?_)
  exact rt_i X hp h dX8_sizeOf_78
def wp_X8_sizeOf (x1 : Int32) (I : II) (Q : Int32 → II → Prop) : Prop := (vp_in ((nI 29) + x1) 1372 ∧ (((I 316 ((nI 29) + x1).toNatClampNeg) = (nI 2) → (wp_X8_begin (nI 12) I (fun I3 => (wp_X8_carefulSize x1 I3 (fun r6 I5 => (Q (-r6) I5)))))) ∧ ((I 316 ((nI 29) + x1).toNatClampNeg) = (nI 3) → (wp_X8_sizeOf_73 Q x1 I)) ∧ ((I 316 ((nI 29) + x1).toNatClampNeg) = (nI 4) → (wp_X8_youngSize x1 I (fun r10 I9 => (Q r10 I9)))) ∧ ((I 316 ((nI 29) + x1).toNatClampNeg) = (nI 5) → (wp_X8_begin (nI 14) I (fun I12 => (wp_X8_youngSize x1 I12 (fun r15 I14 => (Q ((nI 2) * r15) I14)))))) ∧ (¬ (I 316 ((nI 29) + x1).toNatClampNeg) = (nI 2) → ¬ (I 316 ((nI 29) + x1).toNatClampNeg) = (nI 3) → ¬ (I 316 ((nI 29) + x1).toNatClampNeg) = (nI 4) → ¬ (I 316 ((nI 29) + x1).toNatClampNeg) = (nI 5) → (wp_X8_sizeOf_73 Q x1 I))))
set_option maxHeartbeats 4000000 in
set_option maxRecDepth 100000 in
theorem w_X8_sizeOf_0 {E : EE} {p : Program} {l : Launch} {e : Env} {s : State} {m : MethodId} {args : Array Value} {below : List Frame} {meth : Method} {c : Code} {Q : Int32 → II → Prop} (X : CX E p s m args meth c cX8_sizeOf 2 (some .int) RX8) : ∀ (x1 : Int32) (I : II) (H : Heap) (locs : List Loc) (ls : Array Slot), wp_X8_sizeOf x1 I Q → PP E s H locs I → lv_has ls 2 [(0, .ref (E.2.1 315)), (1, .int x1)] → W p l e rmX8_sizeOf s m args below meth c H locs 0 0 (MQ below (va_Qi Q (BU E) E.2.2.2.1) args s 0 0 E.2.2.2.1) (F0 m 0 ls []) := by
  obtain ⟨⟨hx, hb, hml, hown, hts⟩, hr, hlk, hK, hST, hN⟩ := id X
  intro x1 I H locs ls h hp hl
  unfold wp_X8_sizeOf at h
  refine lv_aload_n hx hb dX8_sizeOf_0 rfl (lv_at hl 0 rfl) ?_
  refine f_X8_7 X hp dX8_sizeOf_1 ?_
  refine lv_bipush (v := (nI 29)) hx hb dX8_sizeOf_4 (by decide) ?_
  refine lv_iload_n hx hb dX8_sizeOf_6 rfl (lv_at hl 1 rfl) ?_
  refine lv_iadd hx hb dX8_sizeOf_7 ?_
  have hv1 := h.1
  have h := h.2
  refine al_i X hp ar_s316 hv1 dX8_sizeOf_8 ?_
  by_cases c2 : (I 316 ((nI 29) + x1).toNatClampNeg) = (nI 2)
  · have h := h.1 c2
    refine lv_tableIn (off := 31) (tgt := 40) hx hb dX8_sizeOf_9 (by rw [c2]; decide) (by rw [c2]; decide) (by rw [c2]; rfl) (by decide) ?_
    refine lv_aload_n hx hb dX8_sizeOf_40 rfl (lv_at hl 0 rfl) ?_
    refine lv_bipush (v := (nI 12)) hx hb dX8_sizeOf_41 (by decide) ?_
    refine kv (kV (As := [.int (nI 12)]) (rest := []) X hp (C_X8_begin  h) tw_ml_X8_257 vf_X8_begin ⟨rfl, rfl, Nat.le_of_ble_eq_true rfl, Nat.le_of_ble_eq_true rfl⟩ (pr_rcv X hp (k := 315) (by decide) (ob_315 _) (q := (RX8, TX8, 18)) rfl) rfl hl.1 rfl (Nat.le_of_ble_eq_true rfl) dX8_sizeOf_43) hp (fun I3 H locs h hp => ?_)
    refine lv_aload_n hx hb dX8_sizeOf_46 rfl (lv_at hl 0 rfl) ?_
    refine lv_iload_n hx hb dX8_sizeOf_47 rfl (lv_at hl 1 rfl) ?_
    refine ki (kV (As := [.int x1]) (rest := []) X hp (C_X8_carefulSize  h) tw_ml_X8_266 vf_X8_carefulSize ⟨rfl, rfl, Nat.le_of_ble_eq_true rfl, Nat.le_of_ble_eq_true rfl⟩ (pr_rcv X hp (k := 315) (by decide) (ob_315 _) (q := (RX8, TX8, 18)) rfl) rfl hl.1 rfl (Nat.le_of_ble_eq_true rfl) dX8_sizeOf_48) hp (fun r6 I5 H locs h hp => ?_)
    refine lv_ineg hx hb dX8_sizeOf_51 ?_
    exact rt_i X hp h dX8_sizeOf_52
  have h := h.2
  by_cases c7 : (I 316 ((nI 29) + x1).toNatClampNeg) = (nI 3)
  · have h := h.1 c7
    refine lv_tableIn (off := 64) (tgt := 73) hx hb dX8_sizeOf_9 (by rw [c7]; decide) (by rw [c7]; decide) (by rw [c7]; rfl) (by decide) ?_
    exact w_X8_sizeOf_73 X  _ _ _ _ _ h hp (lv_sub hl [0, 1] rfl)
  have h := h.2
  by_cases c8 : (I 316 ((nI 29) + x1).toNatClampNeg) = (nI 4)
  · have h := h.1 c8
    refine lv_tableIn (off := 44) (tgt := 53) hx hb dX8_sizeOf_9 (by rw [c8]; decide) (by rw [c8]; decide) (by rw [c8]; rfl) (by decide) ?_
    refine lv_aload_n hx hb dX8_sizeOf_53 rfl (lv_at hl 0 rfl) ?_
    refine lv_iload_n hx hb dX8_sizeOf_54 rfl (lv_at hl 1 rfl) ?_
    refine ki (kV (As := [.int x1]) (rest := []) X hp (C_X8_youngSize  h) tw_ml_X8_269 vf_X8_youngSize ⟨rfl, rfl, Nat.le_of_ble_eq_true rfl, Nat.le_of_ble_eq_true rfl⟩ (pr_rcv X hp (k := 315) (by decide) (ob_315 _) (q := (RX8, TX8, 18)) rfl) rfl hl.1 rfl (Nat.le_of_ble_eq_true rfl) dX8_sizeOf_55) hp (fun r10 I9 H locs h hp => ?_)
    exact rt_i X hp h dX8_sizeOf_58
  have h := h.2
  by_cases c11 : (I 316 ((nI 29) + x1).toNatClampNeg) = (nI 5)
  · have h := h.1 c11
    refine lv_tableIn (off := 50) (tgt := 59) hx hb dX8_sizeOf_9 (by rw [c11]; decide) (by rw [c11]; decide) (by rw [c11]; rfl) (by decide) ?_
    refine lv_aload_n hx hb dX8_sizeOf_59 rfl (lv_at hl 0 rfl) ?_
    refine lv_bipush (v := (nI 14)) hx hb dX8_sizeOf_60 (by decide) ?_
    refine kv (kV (As := [.int (nI 14)]) (rest := []) X hp (C_X8_begin  h) tw_ml_X8_257 vf_X8_begin ⟨rfl, rfl, Nat.le_of_ble_eq_true rfl, Nat.le_of_ble_eq_true rfl⟩ (pr_rcv X hp (k := 315) (by decide) (ob_315 _) (q := (RX8, TX8, 18)) rfl) rfl hl.1 rfl (Nat.le_of_ble_eq_true rfl) dX8_sizeOf_62) hp (fun I12 H locs h hp => ?_)
    refine lv_iconst (v := (nI 2)) hx hb dX8_sizeOf_65 (by decide) ?_
    refine lv_aload_n hx hb dX8_sizeOf_66 rfl (lv_at hl 0 rfl) ?_
    refine lv_iload_n hx hb dX8_sizeOf_67 rfl (lv_at hl 1 rfl) ?_
    refine ki (kV (As := [.int x1]) (rest := [.int (nI 2)]) X hp (C_X8_youngSize  h) tw_ml_X8_269 vf_X8_youngSize ⟨rfl, rfl, Nat.le_of_ble_eq_true rfl, Nat.le_of_ble_eq_true rfl⟩ (pr_rcv X hp (k := 315) (by decide) (ob_315 _) (q := (RX8, TX8, 18)) rfl) rfl hl.1 rfl (Nat.le_of_ble_eq_true rfl) dX8_sizeOf_68) hp (fun r15 I14 H locs h hp => ?_)
    refine lv_imul hx hb dX8_sizeOf_71 ?_
    exact rt_i X hp h dX8_sizeOf_72
  have h := h.2
  have h := h c2 c7 c8 c11
  have e16 : (I 316 ((nI 29) + x1).toNatClampNeg).toInt ≠ 2 := fun q => c2 (Int32.toInt_inj.mp (q.trans (by decide)))
  have e17 : (I 316 ((nI 29) + x1).toNatClampNeg).toInt ≠ 3 := fun q => c7 (Int32.toInt_inj.mp (q.trans (by decide)))
  have e18 : (I 316 ((nI 29) + x1).toNatClampNeg).toInt ≠ 4 := fun q => c8 (Int32.toInt_inj.mp (q.trans (by decide)))
  have e19 : (I 316 ((nI 29) + x1).toNatClampNeg).toInt ≠ 5 := fun q => c11 (Int32.toInt_inj.mp (q.trans (by decide)))
  refine lv_tableOut (tgt := 73) hx hb dX8_sizeOf_9 (by omega) (by decide) ?_
  exact w_X8_sizeOf_73 X  _ _ _ _ _ h hp (lv_sub hl [0, 1] rfl)
set_option maxRecDepth 100000 in
theorem C_X8_sizeOf {E : EE} {l : Launch} {x1 : Int32} {I : II} {Q : Int32 → II → Prop} (h : wp_X8_sizeOf x1 I Q) : Met l yX8_sizeOf (Cond.code yX8_sizeOf cX8_sizeOf 2 (some .int) :: lwT) rmX8_sizeOf (va_Pc [.ref (E.2.1 315), .int x1] (PU E I)) (va_Qi Q (BU E) E.2.2.2.1) 0 0 E.2.2.2.1 :=
  ofWalk [.ref (E.2.1 315), .int x1] (by decide) tw_c_X8_sizeOf (Nat.le_of_ble_eq_true rfl) (fun p e s m below meth c ls X hp hl => w_X8_sizeOf_0 X _ _ _ _ _ h hp hl)
abbrev rmX8_youngMark : Room := { frames := 6, cells := 0, slots := 0, locals := 127 }
theorem vf_X8_youngMark : VF yX8_youngMark RX8 cX8_youngMark 3 (some .int) 1 := ⟨tw_in_X8, tw_im_X8_youngMark, tw_se_X8_youngMark, tw_c_X8_youngMark, by decide, by decide, by decide +kernel⟩
def wp_X8_youngMark (x1 : Int32) (I : II) (Q : Int32 → II → Prop) : Prop := (wp_X8_begin (nI 23) I (fun I1 => (wp_X8_lentMark x1 I1 (fun r4 I3 => (wp_X8_sizeOf x1 I3 (fun r6 I5 => (Q (r4 - r6) I5)))))))
set_option maxHeartbeats 4000000 in
set_option maxRecDepth 100000 in
theorem w_X8_youngMark_0 {E : EE} {p : Program} {l : Launch} {e : Env} {s : State} {m : MethodId} {args : Array Value} {below : List Frame} {meth : Method} {c : Code} {Q : Int32 → II → Prop} (X : CX E p s m args meth c cX8_youngMark 3 (some .int) RX8) : ∀ (x1 : Int32) (I : II) (H : Heap) (locs : List Loc) (ls : Array Slot), wp_X8_youngMark x1 I Q → PP E s H locs I → lv_has ls 3 [(0, .ref (E.2.1 315)), (1, .int x1)] → W p l e rmX8_youngMark s m args below meth c H locs 0 0 (MQ below (va_Qi Q (BU E) E.2.2.2.1) args s 0 0 E.2.2.2.1) (F0 m 0 ls []) := by
  obtain ⟨⟨hx, hb, hml, hown, hts⟩, hr, hlk, hK, hST, hN⟩ := id X
  intro x1 I H locs ls h hp hl
  unfold wp_X8_youngMark at h
  refine lv_aload_n hx hb dX8_youngMark_0 rfl (lv_at hl 0 rfl) ?_
  refine lv_bipush (v := (nI 23)) hx hb dX8_youngMark_1 (by decide) ?_
  refine kv (kV (As := [.int (nI 23)]) (rest := []) X hp (C_X8_begin  h) tw_ml_X8_257 vf_X8_begin ⟨rfl, rfl, Nat.le_of_ble_eq_true rfl, Nat.le_of_ble_eq_true rfl⟩ (pr_rcv X hp (k := 315) (by decide) (ob_315 _) (q := (RX8, TX8, 18)) rfl) rfl hl.1 rfl (Nat.le_of_ble_eq_true rfl) dX8_youngMark_3) hp (fun I1 H locs h hp => ?_)
  refine lv_aload_n hx hb dX8_youngMark_6 rfl (lv_at hl 0 rfl) ?_
  refine lv_iload_n hx hb dX8_youngMark_7 rfl (lv_at hl 1 rfl) ?_
  refine ki (kV (As := [.int x1]) (rest := []) X hp (C_X8_lentMark  h) tw_ml_X8_272 vf_X8_lentMark ⟨rfl, rfl, Nat.le_of_ble_eq_true rfl, Nat.le_of_ble_eq_true rfl⟩ (pr_rcv X hp (k := 315) (by decide) (ob_315 _) (q := (RX8, TX8, 18)) rfl) rfl hl.1 rfl (Nat.le_of_ble_eq_true rfl) dX8_youngMark_8) hp (fun r4 I3 H locs h hp => ?_)
  refine lv_istore_n (lv' := [(2, .int r4), (0, .ref (E.2.1 315)), (1, .int x1)]) hx hb dX8_youngMark_11 rfl hl (by decide) rfl (fun ls hl => ?_)
  refine lv_iload_n hx hb dX8_youngMark_12 rfl (lv_at hl 0 rfl) ?_
  refine lv_aload_n hx hb dX8_youngMark_13 rfl (lv_at hl 1 rfl) ?_
  refine lv_iload_n hx hb dX8_youngMark_14 rfl (lv_at hl 2 rfl) ?_
  refine ki (kV (As := [.int x1]) (rest := [.int r4]) X hp (C_X8_sizeOf  h) tw_ml_X8_278 vf_X8_sizeOf ⟨rfl, rfl, Nat.le_of_ble_eq_true rfl, Nat.le_of_ble_eq_true rfl⟩ (pr_rcv X hp (k := 315) (by decide) (ob_315 _) (q := (RX8, TX8, 18)) rfl) rfl hl.1 rfl (Nat.le_of_ble_eq_true rfl) dX8_youngMark_15) hp (fun r6 I5 H locs h hp => ?_)
  refine lv_isub hx hb dX8_youngMark_18 ?_
  exact rt_i X hp h dX8_youngMark_19
set_option maxRecDepth 100000 in
theorem C_X8_youngMark {E : EE} {l : Launch} {x1 : Int32} {I : II} {Q : Int32 → II → Prop} (h : wp_X8_youngMark x1 I Q) : Met l yX8_youngMark (Cond.code yX8_youngMark cX8_youngMark 3 (some .int) :: lwT) rmX8_youngMark (va_Pc [.ref (E.2.1 315), .int x1] (PU E I)) (va_Qi Q (BU E) E.2.2.2.1) 0 0 E.2.2.2.1 :=
  ofWalk [.ref (E.2.1 315), .int x1] (by decide) tw_c_X8_youngMark (Nat.le_of_ble_eq_true rfl) (fun p e s m below meth c ls X hp hl => w_X8_youngMark_0 X _ _ _ _ _ h hp hl)
abbrev rmX8_ask : Room := { frames := 7, cells := 0, slots := 0, locals := 149 }
theorem vf_X8_ask : VF yX8_ask RX8 cX8_ask 3 (some .int) 2 := ⟨tw_in_X8, tw_im_X8_ask, tw_se_X8_ask, tw_c_X8_ask, by decide, by decide, by decide +kernel⟩
def wp_X8_ask (x1 : Int32) (x2 : Int32) (I : II) (Q : Int32 → II → Prop) : Prop := (wp_X8_isTeller x1 I (fun r2 I1 => ((r2 = 0 → (Q (-nI 1000001) I1)) ∧ (¬ r2 = 0 → (wp_X8_in x2.toInt64 (lN 0) (lN 1) I1 (fun r5 I4 => ((¬ r5 = 0 → (∀ I7 : II, I7 = su I4 315 12 (nI 0) → ((¬ x2 = 0 → (wp_X8_isOf x1 (nI 4) I7 (fun r11 I10 => ((r11 = 0 → (wp_X8_mark x1 I10 (fun r14 I13 => (Q r14 I13)))) ∧ (¬ r11 = 0 → (wp_X8_youngMark x1 I10 (fun r16 I15 => (Q r16 I15)))))))) ∧ (x2 = 0 → (wp_X8_sizeOf x1 I7 (fun r18 I17 => (Q r18 I17))))))) ∧ (r5 = 0 → (Q (-nI 1000001) I4)))))))))
set_option maxHeartbeats 4000000 in
set_option maxRecDepth 100000 in
theorem w_X8_ask_0 {E : EE} {p : Program} {l : Launch} {e : Env} {s : State} {m : MethodId} {args : Array Value} {below : List Frame} {meth : Method} {c : Code} {Q : Int32 → II → Prop} (X : CX E p s m args meth c cX8_ask 3 (some .int) RX8) : ∀ (x1 : Int32) (x2 : Int32) (I : II) (H : Heap) (locs : List Loc) (ls : Array Slot), wp_X8_ask x1 x2 I Q → PP E s H locs I → lv_has ls 3 [(0, .ref (E.2.1 315)), (1, .int x1), (2, .int x2)] → W p l e rmX8_ask s m args below meth c H locs 0 0 (MQ below (va_Qi Q (BU E) E.2.2.2.1) args s 0 0 E.2.2.2.1) (F0 m 0 ls []) := by
  obtain ⟨⟨hx, hb, hml, hown, hts⟩, hr, hlk, hK, hST, hN⟩ := id X
  intro x1 x2 I H locs ls h hp hl
  unfold wp_X8_ask at h
  refine lv_aload_n hx hb dX8_ask_0 rfl (lv_at hl 0 rfl) ?_
  refine lv_iload_n hx hb dX8_ask_1 rfl (lv_at hl 1 rfl) ?_
  refine ki (kV (As := [.int x1]) (rest := []) X hp (C_X8_isTeller  h) tw_ml_X8_175 vf_X8_isTeller ⟨rfl, rfl, Nat.le_of_ble_eq_true rfl, Nat.le_of_ble_eq_true rfl⟩ (pr_rcv X hp (k := 315) (by decide) (ob_315 _) (q := (RX8, TX8, 18)) rfl) rfl hl.1 rfl (Nat.le_of_ble_eq_true rfl) dX8_ask_2) hp (fun r2 I1 H locs h hp => ?_)
  refine lv_if_eq (tgt := 18) hx hb dX8_ask_5 (by decide) (fun c3 => ?_) (fun c3 => ?_)
  · have h := h.1 c3
    refine lv_ldc (v := (-nI 1000001)) hx hb hown (hts _ tw_k_X8_55) dX8_ask_18 ?_
    exact rt_i X hp h dX8_ask_20
  · have h := h.2 c3
    refine lv_iload_n hx hb dX8_ask_8 rfl (lv_at hl 2 rfl) ?_
    refine lv_i2l (v := x2.toInt64) hx hb dX8_ask_9 rfl ?_
    refine lv_lconst (v := (lN 0)) hx hb dX8_ask_10 (by decide) ?_
    refine lv_lconst (v := (lN 1)) hx hb dX8_ask_11 (by decide) ?_
    refine ki (kS (As := [.long x2.toInt64, .long (lN 0), .long (lN 1)]) (rest := []) X hp (C_X8_in  h) tw_ml_X8_45 sf_X8_in ⟨rfl, rfl, Nat.le_of_ble_eq_true rfl, Nat.le_of_ble_eq_true rfl⟩ rfl hl.1 rfl (Nat.le_of_ble_eq_true rfl) dX8_ask_12) hp (fun r5 I4 H locs h hp => ?_)
    refine lv_if_ne (tgt := 21) hx hb dX8_ask_15 (by decide) (fun c6 => ?_) (fun c6 => ?_)
    · have h := h.1 c6
      refine lv_aload_n hx hb dX8_ask_21 rfl (lv_at hl 0 rfl) ?_
      refine lv_iconst (v := (nI 0)) hx hb dX8_ask_22 (by decide) ?_
      refine g_X8_254 X hp dX8_ask_23 (fun H locs hp => ?_)
      obtain ⟨I7, e8⟩ : ∃ y, y = su I4 315 12 (nI 0) := ⟨_, rfl⟩
      have hp : PP E s H locs I7 := by rw [e8]; exact hp
      have h := h I7 e8
      refine lv_iload_n hx hb dX8_ask_26 rfl (lv_at hl 2 rfl) ?_
      refine lv_if_ne (tgt := 38) hx hb dX8_ask_27 (by decide) (fun c9 => ?_) (fun c9 => ?_)
      · have h := h.1 c9
        refine lv_aload_n hx hb dX8_ask_38 rfl (lv_at hl 0 rfl) ?_
        refine lv_iload_n hx hb dX8_ask_39 rfl (lv_at hl 1 rfl) ?_
        refine lv_iconst (v := (nI 4)) hx hb dX8_ask_40 (by decide) ?_
        refine ki (kV (As := [.int x1, .int (nI 4)]) (rest := []) X hp (C_X8_isOf  h) tw_ml_X8_251 vf_X8_isOf ⟨rfl, rfl, Nat.le_of_ble_eq_true rfl, Nat.le_of_ble_eq_true rfl⟩ (pr_rcv X hp (k := 315) (by decide) (ob_315 _) (q := (RX8, TX8, 18)) rfl) rfl hl.1 rfl (Nat.le_of_ble_eq_true rfl) dX8_ask_41) hp (fun r11 I10 H locs h hp => ?_)
        refine lv_if_eq (tgt := 55) hx hb dX8_ask_44 (by decide) (fun c12 => ?_) (fun c12 => ?_)
        · have h := h.1 c12
          refine lv_aload_n hx hb dX8_ask_55 rfl (lv_at hl 0 rfl) ?_
          refine lv_iload_n hx hb dX8_ask_56 rfl (lv_at hl 1 rfl) ?_
          refine ki (kV (As := [.int x1]) (rest := []) X hp (C_X8_mark  h) tw_ml_X8_263 vf_X8_mark ⟨rfl, rfl, Nat.le_of_ble_eq_true rfl, Nat.le_of_ble_eq_true rfl⟩ (pr_rcv X hp (k := 315) (by decide) (ob_315 _) (q := (RX8, TX8, 18)) rfl) rfl hl.1 rfl (Nat.le_of_ble_eq_true rfl) dX8_ask_57) hp (fun r14 I13 H locs h hp => ?_)
          exact rt_i X hp h dX8_ask_60
        · have h := h.2 c12
          refine lv_aload_n hx hb dX8_ask_47 rfl (lv_at hl 0 rfl) ?_
          refine lv_iload_n hx hb dX8_ask_48 rfl (lv_at hl 1 rfl) ?_
          refine ki (kV (As := [.int x1]) (rest := []) X hp (C_X8_youngMark  h) tw_ml_X8_281 vf_X8_youngMark ⟨rfl, rfl, Nat.le_of_ble_eq_true rfl, Nat.le_of_ble_eq_true rfl⟩ (pr_rcv X hp (k := 315) (by decide) (ob_315 _) (q := (RX8, TX8, 18)) rfl) rfl hl.1 rfl (Nat.le_of_ble_eq_true rfl) dX8_ask_49) hp (fun r16 I15 H locs h hp => ?_)
          refine lv_goto (tgt := 60) hx hb dX8_ask_52 (by decide) ?_
          exact rt_i X hp h dX8_ask_60
      · have h := h.2 c9
        refine lv_aload_n hx hb dX8_ask_30 rfl (lv_at hl 0 rfl) ?_
        refine lv_iload_n hx hb dX8_ask_31 rfl (lv_at hl 1 rfl) ?_
        refine ki (kV (As := [.int x1]) (rest := []) X hp (C_X8_sizeOf  h) tw_ml_X8_278 vf_X8_sizeOf ⟨rfl, rfl, Nat.le_of_ble_eq_true rfl, Nat.le_of_ble_eq_true rfl⟩ (pr_rcv X hp (k := 315) (by decide) (ob_315 _) (q := (RX8, TX8, 18)) rfl) rfl hl.1 rfl (Nat.le_of_ble_eq_true rfl) dX8_ask_32) hp (fun r18 I17 H locs h hp => ?_)
        refine lv_goto (tgt := 60) hx hb dX8_ask_35 (by decide) ?_
        exact rt_i X hp h dX8_ask_60
    · have h := h.2 c6
      refine lv_ldc (v := (-nI 1000001)) hx hb hown (hts _ tw_k_X8_55) dX8_ask_18 ?_
      exact rt_i X hp h dX8_ask_20
set_option maxRecDepth 100000 in
theorem C_X8_ask {E : EE} {l : Launch} {x1 : Int32} {x2 : Int32} {I : II} {Q : Int32 → II → Prop} (h : wp_X8_ask x1 x2 I Q) : Met l yX8_ask (Cond.code yX8_ask cX8_ask 3 (some .int) :: lwT) rmX8_ask (va_Pc [.ref (E.2.1 315), .int x1, .int x2] (PU E I)) (va_Qi Q (BU E) E.2.2.2.1) 0 0 E.2.2.2.1 :=
  ofWalk [.ref (E.2.1 315), .int x1, .int x2] (by decide) tw_c_X8_ask (Nat.le_of_ble_eq_true rfl) (fun p e s m below meth c ls X hp hl => w_X8_ask_0 X _ _ _ _ _ _ h hp hl)
abbrev rmX8_trace : Room := { frames := 1, cells := 0, slots := 0, locals := 25 }
theorem vf_X8_trace : VF yX8_trace RX8 cX8_trace 2 (some .int) 1 := ⟨tw_in_X8, tw_im_X8_trace, tw_se_X8_trace, tw_c_X8_trace, by decide, by decide, by decide +kernel⟩
def wp_X8_trace (x1 : Int32) (I : II) (Q : Int32 → II → Prop) : Prop := (wp_X8_in x1.toInt64 (lN 0) ((I 315 12) - (nI 1)).toInt64 I (fun r2 I1 => ((r2 = 0 → (Q (-nI 1000000) I1)) ∧ (¬ r2 = 0 → (vp_in x1 16 ∧ (Q (I1 322 x1.toNatClampNeg) I1))))))
set_option maxHeartbeats 4000000 in
set_option maxRecDepth 100000 in
theorem w_X8_trace_0 {E : EE} {p : Program} {l : Launch} {e : Env} {s : State} {m : MethodId} {args : Array Value} {below : List Frame} {meth : Method} {c : Code} {Q : Int32 → II → Prop} (X : CX E p s m args meth c cX8_trace 2 (some .int) RX8) : ∀ (x1 : Int32) (I : II) (H : Heap) (locs : List Loc) (ls : Array Slot), wp_X8_trace x1 I Q → PP E s H locs I → lv_has ls 2 [(0, .ref (E.2.1 315)), (1, .int x1)] → W p l e rmX8_trace s m args below meth c H locs 0 0 (MQ below (va_Qi Q (BU E) E.2.2.2.1) args s 0 0 E.2.2.2.1) (F0 m 0 ls []) := by
  obtain ⟨⟨hx, hb, hml, hown, hts⟩, hr, hlk, hK, hST, hN⟩ := id X
  intro x1 I H locs ls h hp hl
  unfold wp_X8_trace at h
  refine lv_iload_n hx hb dX8_trace_0 rfl (lv_at hl 1 rfl) ?_
  refine lv_i2l (v := x1.toInt64) hx hb dX8_trace_1 rfl ?_
  refine lv_lconst (v := (lN 0)) hx hb dX8_trace_2 (by decide) ?_
  refine lv_aload_n hx hb dX8_trace_3 rfl (lv_at hl 0 rfl) ?_
  refine f_X8_254 X hp dX8_trace_4 ?_
  refine lv_iconst (v := (nI 1)) hx hb dX8_trace_7 (by decide) ?_
  refine lv_isub hx hb dX8_trace_8 ?_
  refine lv_i2l (v := ((I 315 12) - (nI 1)).toInt64) hx hb dX8_trace_9 rfl ?_
  refine ki (kS (As := [.long x1.toInt64, .long (lN 0), .long ((I 315 12) - (nI 1)).toInt64]) (rest := []) X hp (C_X8_in  h) tw_ml_X8_45 sf_X8_in ⟨rfl, rfl, Nat.le_of_ble_eq_true rfl, Nat.le_of_ble_eq_true rfl⟩ rfl hl.1 rfl (Nat.le_of_ble_eq_true rfl) dX8_trace_10) hp (fun r2 I1 H locs h hp => ?_)
  refine lv_if_eq (tgt := 25) hx hb dX8_trace_13 (by decide) (fun c3 => ?_) (fun c3 => ?_)
  · have h := h.1 c3
    refine lv_ldc (v := (-nI 1000000)) hx hb hown (hts _ tw_k_X8_149) dX8_trace_25 ?_
    exact rt_i X hp h dX8_trace_27
  · have h := h.2 c3
    refine lv_aload_n hx hb dX8_trace_16 rfl (lv_at hl 0 rfl) ?_
    refine f_X8_29 X hp dX8_trace_17 ?_
    refine lv_iload_n hx hb dX8_trace_20 rfl (lv_at hl 1 rfl) ?_
    have hv4 := h.1
    have h := h.2
    refine al_i X hp ar_s322 hv4 dX8_trace_21 ?_
    refine lv_goto (tgt := 27) hx hb dX8_trace_22 (by decide) ?_
    exact rt_i X hp h dX8_trace_27
set_option maxRecDepth 100000 in
theorem C_X8_trace {E : EE} {l : Launch} {x1 : Int32} {I : II} {Q : Int32 → II → Prop} (h : wp_X8_trace x1 I Q) : Met l yX8_trace (Cond.code yX8_trace cX8_trace 2 (some .int) :: lwT) rmX8_trace (va_Pc [.ref (E.2.1 315), .int x1] (PU E I)) (va_Qi Q (BU E) E.2.2.2.1) 0 0 E.2.2.2.1 :=
  ofWalk [.ref (E.2.1 315), .int x1] (by decide) tw_c_X8_trace (Nat.le_of_ble_eq_true rfl) (fun p e s m below meth c ls X hp hl => w_X8_trace_0 X _ _ _ _ _ h hp hl)
abbrev rmX8_count : Room := { frames := 0, cells := 0, slots := 0, locals := 0 }
theorem vf_X8_count : VF yX8_count RX8 cX8_count 4 (some .int) 1 := ⟨tw_in_X8, tw_im_X8_count, tw_se_X8_count, tw_c_X8_count, by decide, by decide, by decide +kernel⟩
def wp_X8_count_71 (Q : Int32 → II → Prop) (k50 : Int32 → Int32 → II → Prop) (x3 : Int32) (v0 : Int32) (v1 : Int32) (I : II) : Prop := (k50 (v1 + v0) (x3 + (nI 1)) I)
set_option maxHeartbeats 4000000 in
set_option maxRecDepth 100000 in
theorem w_X8_count_71 {E : EE} {p : Program} {l : Launch} {e : Env} {s : State} {m : MethodId} {args : Array Value} {below : List Frame} {meth : Method} {c : Code} {Q : Int32 → II → Prop} {k50 : Int32 → Int32 → II → Prop} (X : CX E p s m args meth c cX8_count 4 (some .int) RX8) (K50 : ∀ (x2 : Int32) (x3 : Int32) (I : II) (H : Heap) (locs : List Loc) (ls : Array Slot), k50 x2 x3 I → PP E s H locs I → lv_has ls 4 [(0, .ref (E.2.1 315)), (2, .int x2), (3, .int x3)] → W p l e rmX8_count s m args below meth c H locs 0 0 (MQ below (va_Qi Q (BU E) E.2.2.2.1) args s 0 0 E.2.2.2.1) (F0 m 50 ls [])) : ∀ (x3 : Int32) (v0 : Int32) (v1 : Int32) (I : II) (H : Heap) (locs : List Loc) (ls : Array Slot), wp_X8_count_71 Q k50 x3 v0 v1 I → PP E s H locs I → lv_has ls 4 [(0, .ref (E.2.1 315)), (3, .int x3)] → W p l e rmX8_count s m args below meth c H locs 0 0 (MQ below (va_Qi Q (BU E) E.2.2.2.1) args s 0 0 E.2.2.2.1) (F0 m 71 ls [.int v0, .int v1]) := by
  obtain ⟨⟨hx, hb, hml, hown, hts⟩, hr, hlk, hK, hST, hN⟩ := id X
  intro x3 v0 v1 I H locs ls h hp hl
  unfold wp_X8_count_71 at h
  refine lv_iadd hx hb dX8_count_71 ?_
  refine lv_istore_n (lv' := [(2, .int (v1 + v0)), (0, .ref (E.2.1 315)), (3, .int x3)]) hx hb dX8_count_72 rfl hl (by decide) rfl (fun ls hl => ?_)
  refine lv_iinc (v := (x3 + (nI 1))) (lv' := [(3, .int (x3 + (nI 1))), (2, .int (v1 + v0)), (0, .ref (E.2.1 315))]) hx hb dX8_count_73 hl (k := 2) rfl rfl (by decide) rfl (fun ls hl => ?_)
  refine lv_goto (tgt := 50) hx hb dX8_count_76 (by decide) ?_
  exact K50 _ _ _ _ _ _ h hp (lv_sub hl [2, 1, 0] rfl)
def wp_X8_count_50 (Q : Int32 → II → Prop) (k79 : Int32 → II → Prop) : Nat → Int32 → Int32 → II → Prop
  | 0, _, _, _ => False
  | n + 1, x2, x3, I => (((nI 8) ≤ x3 → (k79 x2 I)) ∧ (¬ (nI 8) ≤ x3 → (vp_in x3 8 ∧ ((0 ≤ (I 319 x3.toNatClampNeg) → (wp_X8_count_71 Q (fun x2 x3 I => wp_X8_count_50 Q k79 n x2 x3 I) x3 (nI 1) x2 I)) ∧ (¬ 0 ≤ (I 319 x3.toNatClampNeg) → (wp_X8_count_71 Q (fun x2 x3 I => wp_X8_count_50 Q k79 n x2 x3 I) x3 (nI 0) x2 I))))))
set_option maxHeartbeats 4000000 in
set_option maxRecDepth 100000 in
theorem w_X8_count_50 {E : EE} {p : Program} {l : Launch} {e : Env} {s : State} {m : MethodId} {args : Array Value} {below : List Frame} {meth : Method} {c : Code} {Q : Int32 → II → Prop} {k79 : Int32 → II → Prop} (X : CX E p s m args meth c cX8_count 4 (some .int) RX8) (K79 : ∀ (x2 : Int32) (I : II) (H : Heap) (locs : List Loc) (ls : Array Slot), k79 x2 I → PP E s H locs I → lv_has ls 4 [(2, .int x2)] → W p l e rmX8_count s m args below meth c H locs 0 0 (MQ below (va_Qi Q (BU E) E.2.2.2.1) args s 0 0 E.2.2.2.1) (F0 m 79 ls [])) : ∀ (n : Nat) (x2 : Int32) (x3 : Int32) (I : II) (H : Heap) (locs : List Loc) (ls : Array Slot), wp_X8_count_50 Q k79 n x2 x3 I → PP E s H locs I → lv_has ls 4 [(0, .ref (E.2.1 315)), (2, .int x2), (3, .int x3)] → W p l e rmX8_count s m args below meth c H locs 0 0 (MQ below (va_Qi Q (BU E) E.2.2.2.1) args s 0 0 E.2.2.2.1) (F0 m 50 ls []) := by
  obtain ⟨⟨hx, hb, hml, hown, hts⟩, hr, hlk, hK, hST, hN⟩ := id X
  intro n
  induction n with
  | zero =>
    intro x2 x3 I H locs ls h hp hl
    exact False.elim h
  | succ n ih =>
    intro x2 x3 I H locs ls h hp hl
    rw [wp_X8_count_50.eq_2] at h
    refine lv_iload_n hx hb dX8_count_50 rfl (lv_at hl 2 rfl) ?_
    refine lv_bipush (v := (nI 8)) hx hb dX8_count_51 (by decide) ?_
    refine lv_icmp_ge (tgt := 79) hx hb dX8_count_53 (by decide) (fun c1 => ?_) (fun c1 => ?_)
    · have h := h.1 c1
      exact K79 _ _ _ _ _ h hp (lv_sub hl [1] rfl)
    · have h := h.2 c1
      refine lv_iload_n hx hb dX8_count_56 rfl (lv_at hl 1 rfl) ?_
      refine lv_aload_n hx hb dX8_count_57 rfl (lv_at hl 0 rfl) ?_
      refine f_X8_20 X hp dX8_count_58 ?_
      refine lv_iload_n hx hb dX8_count_61 rfl (lv_at hl 2 rfl) ?_
      have hv2 := h.1
      have h := h.2
      refine al_i X hp ar_s319 hv2 dX8_count_62 ?_
      refine lv_if_ge (tgt := 70) hx hb dX8_count_63 (by decide) (fun c3 => ?_) (fun c3 => ?_)
      · have h := h.1 c3
        refine lv_iconst (v := (nI 1)) hx hb dX8_count_70 (by decide) ?_
        exact w_X8_count_71 X ih _ _ _ _ _ _ _ h hp (lv_sub hl [0, 2] rfl)
      · have h := h.2 c3
        refine lv_iconst (v := (nI 0)) hx hb dX8_count_66 (by decide) ?_
        refine lv_goto (tgt := 71) hx hb dX8_count_67 (by decide) ?_
        exact w_X8_count_71 X ih _ _ _ _ _ _ _ h hp (lv_sub hl [0, 2] rfl)
def wp_X8_count (x1 : Int32) (I : II) (Q : Int32 → II → Prop) : Prop := ((x1 = (nI 0) → (∃ n52, wp_X8_count_50 Q (fun x2 I => (Q x2 I)) n52 (nI 0) (nI 0) I)) ∧ (x1 = (nI 1) → (vp_in (nI 0) 1372 ∧ (Q (I 316 (nI 0).toNatClampNeg) I))) ∧ (x1 = (nI 2) → (vp_in (nI 7) 1372 ∧ (Q (I 316 (nI 7).toNatClampNeg) I))) ∧ (x1 = (nI 3) → (vp_in (nI 3) 1372 ∧ (Q (I 316 (nI 3).toNatClampNeg) I))) ∧ (x1 = (nI 4) → (vp_in (nI 4) 1372 ∧ (Q (I 316 (nI 4).toNatClampNeg) I))) ∧ (x1 = (nI 5) → (vp_in (nI 5) 1372 ∧ (Q (I 316 (nI 5).toNatClampNeg) I))) ∧ (x1 = (nI 6) → (Q (I 315 2) I)) ∧ (x1 = (nI 7) → (Q (I 315 8) I)) ∧ (¬ x1 = (nI 0) → ¬ x1 = (nI 1) → ¬ x1 = (nI 2) → ¬ x1 = (nI 3) → ¬ x1 = (nI 4) → ¬ x1 = (nI 5) → ¬ x1 = (nI 6) → ¬ x1 = (nI 7) → (Q (-nI 1000001) I)))
set_option maxHeartbeats 4000000 in
set_option maxRecDepth 100000 in
theorem w_X8_count_0 {E : EE} {p : Program} {l : Launch} {e : Env} {s : State} {m : MethodId} {args : Array Value} {below : List Frame} {meth : Method} {c : Code} {Q : Int32 → II → Prop} (X : CX E p s m args meth c cX8_count 4 (some .int) RX8) : ∀ (x1 : Int32) (I : II) (H : Heap) (locs : List Loc) (ls : Array Slot), wp_X8_count x1 I Q → PP E s H locs I → lv_has ls 4 [(0, .ref (E.2.1 315)), (1, .int x1)] → W p l e rmX8_count s m args below meth c H locs 0 0 (MQ below (va_Qi Q (BU E) E.2.2.2.1) args s 0 0 E.2.2.2.1) (F0 m 0 ls []) := by
  obtain ⟨⟨hx, hb, hml, hown, hts⟩, hr, hlk, hK, hST, hN⟩ := id X
  intro x1 I H locs ls h hp hl
  unfold wp_X8_count at h
  refine lv_iconst (v := (nI 0)) hx hb dX8_count_0 (by decide) ?_
  refine lv_istore_n (lv' := [(2, .int (nI 0)), (0, .ref (E.2.1 315)), (1, .int x1)]) hx hb dX8_count_1 rfl hl (by decide) rfl (fun ls hl => ?_)
  refine lv_iload_n hx hb dX8_count_2 rfl (lv_at hl 2 rfl) ?_
  by_cases c1 : x1 = (nI 0)
  · have h := h.1 c1
    refine lv_tableIn (off := 45) (tgt := 48) hx hb dX8_count_3 (by rw [c1]; decide) (by rw [c1]; decide) (by rw [c1]; rfl) (by decide) ?_
    refine lv_iconst (v := (nI 0)) hx hb dX8_count_48 (by decide) ?_
    refine lv_istore_n (lv' := [(3, .int (nI 0)), (2, .int (nI 0)), (0, .ref (E.2.1 315)), (1, .int x1)]) hx hb dX8_count_49 rfl hl (by decide) rfl (fun ls hl => ?_)
    obtain ⟨n52, h⟩ := h
    refine w_X8_count_50 X ?_ n52 _ _ _ _ _ _ h hp (lv_sub hl [2, 1, 0] rfl)
    · intro x2 I H locs ls h hp hl
      refine lv_iload_n hx hb dX8_count_79 rfl (lv_at hl 0 rfl) ?_
      exact rt_i X hp h dX8_count_80
  have h := h.2
  by_cases c53 : x1 = (nI 1)
  · have h := h.1 c53
    refine lv_tableIn (off := 78) (tgt := 81) hx hb dX8_count_3 (by rw [c53]; decide) (by rw [c53]; decide) (by rw [c53]; rfl) (by decide) ?_
    refine lv_aload_n hx hb dX8_count_81 rfl (lv_at hl 1 rfl) ?_
    refine f_X8_7 X hp dX8_count_82 ?_
    refine lv_iconst (v := (nI 0)) hx hb dX8_count_85 (by decide) ?_
    have hv54 := h.1
    have h := h.2
    refine al_i X hp ar_s316 hv54 dX8_count_86 ?_
    exact rt_i X hp h dX8_count_87
  have h := h.2
  by_cases c55 : x1 = (nI 2)
  · have h := h.1 c55
    refine lv_tableIn (off := 85) (tgt := 88) hx hb dX8_count_3 (by rw [c55]; decide) (by rw [c55]; decide) (by rw [c55]; rfl) (by decide) ?_
    refine lv_aload_n hx hb dX8_count_88 rfl (lv_at hl 1 rfl) ?_
    refine f_X8_7 X hp dX8_count_89 ?_
    refine lv_bipush (v := (nI 7)) hx hb dX8_count_92 (by decide) ?_
    have hv56 := h.1
    have h := h.2
    refine al_i X hp ar_s316 hv56 dX8_count_94 ?_
    exact rt_i X hp h dX8_count_95
  have h := h.2
  by_cases c57 : x1 = (nI 3)
  · have h := h.1 c57
    refine lv_tableIn (off := 93) (tgt := 96) hx hb dX8_count_3 (by rw [c57]; decide) (by rw [c57]; decide) (by rw [c57]; rfl) (by decide) ?_
    refine lv_aload_n hx hb dX8_count_96 rfl (lv_at hl 1 rfl) ?_
    refine f_X8_7 X hp dX8_count_97 ?_
    refine lv_iconst (v := (nI 3)) hx hb dX8_count_100 (by decide) ?_
    have hv58 := h.1
    have h := h.2
    refine al_i X hp ar_s316 hv58 dX8_count_101 ?_
    exact rt_i X hp h dX8_count_102
  have h := h.2
  by_cases c59 : x1 = (nI 4)
  · have h := h.1 c59
    refine lv_tableIn (off := 100) (tgt := 103) hx hb dX8_count_3 (by rw [c59]; decide) (by rw [c59]; decide) (by rw [c59]; rfl) (by decide) ?_
    refine lv_aload_n hx hb dX8_count_103 rfl (lv_at hl 1 rfl) ?_
    refine f_X8_7 X hp dX8_count_104 ?_
    refine lv_iconst (v := (nI 4)) hx hb dX8_count_107 (by decide) ?_
    have hv60 := h.1
    have h := h.2
    refine al_i X hp ar_s316 hv60 dX8_count_108 ?_
    exact rt_i X hp h dX8_count_109
  have h := h.2
  by_cases c61 : x1 = (nI 5)
  · have h := h.1 c61
    refine lv_tableIn (off := 107) (tgt := 110) hx hb dX8_count_3 (by rw [c61]; decide) (by rw [c61]; decide) (by rw [c61]; rfl) (by decide) ?_
    refine lv_aload_n hx hb dX8_count_110 rfl (lv_at hl 1 rfl) ?_
    refine f_X8_7 X hp dX8_count_111 ?_
    refine lv_iconst (v := (nI 5)) hx hb dX8_count_114 (by decide) ?_
    have hv62 := h.1
    have h := h.2
    refine al_i X hp ar_s316 hv62 dX8_count_115 ?_
    exact rt_i X hp h dX8_count_116
  have h := h.2
  by_cases c63 : x1 = (nI 6)
  · have h := h.1 c63
    refine lv_tableIn (off := 114) (tgt := 117) hx hb dX8_count_3 (by rw [c63]; decide) (by rw [c63]; decide) (by rw [c63]; rfl) (by decide) ?_
    refine lv_aload_n hx hb dX8_count_117 rfl (lv_at hl 1 rfl) ?_
    refine f_X8_141 X hp dX8_count_118 ?_
    exact rt_i X hp h dX8_count_121
  have h := h.2
  by_cases c64 : x1 = (nI 7)
  · have h := h.1 c64
    refine lv_tableIn (off := 119) (tgt := 122) hx hb dX8_count_3 (by rw [c64]; decide) (by rw [c64]; decide) (by rw [c64]; rfl) (by decide) ?_
    refine lv_aload_n hx hb dX8_count_122 rfl (lv_at hl 1 rfl) ?_
    refine f_X8_73 X hp dX8_count_123 ?_
    exact rt_i X hp h dX8_count_126
  have h := h.2
  have h := h c1 c53 c55 c57 c59 c61 c63 c64
  have e65 : x1.toInt ≠ 0 := fun q => c1 (Int32.toInt_inj.mp (q.trans (by decide)))
  have e66 : x1.toInt ≠ 1 := fun q => c53 (Int32.toInt_inj.mp (q.trans (by decide)))
  have e67 : x1.toInt ≠ 2 := fun q => c55 (Int32.toInt_inj.mp (q.trans (by decide)))
  have e68 : x1.toInt ≠ 3 := fun q => c57 (Int32.toInt_inj.mp (q.trans (by decide)))
  have e69 : x1.toInt ≠ 4 := fun q => c59 (Int32.toInt_inj.mp (q.trans (by decide)))
  have e70 : x1.toInt ≠ 5 := fun q => c61 (Int32.toInt_inj.mp (q.trans (by decide)))
  have e71 : x1.toInt ≠ 6 := fun q => c63 (Int32.toInt_inj.mp (q.trans (by decide)))
  have e72 : x1.toInt ≠ 7 := fun q => c64 (Int32.toInt_inj.mp (q.trans (by decide)))
  refine lv_tableOut (tgt := 127) hx hb dX8_count_3 (by omega) (by decide) ?_
  refine lv_ldc (v := (-nI 1000001)) hx hb hown (hts _ tw_k_X8_55) dX8_count_127 ?_
  exact rt_i X hp h dX8_count_129
set_option maxRecDepth 100000 in
theorem C_X8_count {E : EE} {l : Launch} {x1 : Int32} {I : II} {Q : Int32 → II → Prop} (h : wp_X8_count x1 I Q) : Met l yX8_count (Cond.code yX8_count cX8_count 4 (some .int) :: lwT) rmX8_count (va_Pc [.ref (E.2.1 315), .int x1] (PU E I)) (va_Qi Q (BU E) E.2.2.2.1) 0 0 E.2.2.2.1 :=
  ofWalk [.ref (E.2.1 315), .int x1] (by decide) tw_c_X8_count (Nat.le_of_ble_eq_true rfl) (fun p e s m below meth c ls X hp hl => w_X8_count_0 X _ _ _ _ _ h hp hl)
abbrev rmX8_status : Room := { frames := 0, cells := 0, slots := 0, locals := 0 }
theorem vf_X8_status : VF yX8_status RX8 cX8_status 1 (some .int) 0 := ⟨tw_in_X8, tw_im_X8_status, tw_se_X8_status, tw_c_X8_status, by decide, by decide, by decide +kernel⟩
def wp_X8_status (I : II) (Q : Int32 → II → Prop) : Prop := (Q (I 315 10) I)
set_option maxHeartbeats 4000000 in
set_option maxRecDepth 100000 in
theorem w_X8_status_0 {E : EE} {p : Program} {l : Launch} {e : Env} {s : State} {m : MethodId} {args : Array Value} {below : List Frame} {meth : Method} {c : Code} {Q : Int32 → II → Prop} (X : CX E p s m args meth c cX8_status 1 (some .int) RX8) : ∀ (I : II) (H : Heap) (locs : List Loc) (ls : Array Slot), wp_X8_status I Q → PP E s H locs I → lv_has ls 1 [(0, .ref (E.2.1 315))] → W p l e rmX8_status s m args below meth c H locs 0 0 (MQ below (va_Qi Q (BU E) E.2.2.2.1) args s 0 0 E.2.2.2.1) (F0 m 0 ls []) := by
  obtain ⟨⟨hx, hb, hml, hown, hts⟩, hr, hlk, hK, hST, hN⟩ := id X
  intro I H locs ls h hp hl
  unfold wp_X8_status at h
  refine lv_aload_n hx hb dX8_status_0 rfl (lv_at hl 0 rfl) ?_
  refine f_X8_38 X hp dX8_status_1 ?_
  exact rt_i X hp h dX8_status_4
set_option maxRecDepth 100000 in
theorem C_X8_status {E : EE} {l : Launch} {I : II} {Q : Int32 → II → Prop} (h : wp_X8_status I Q) : Met l yX8_status (Cond.code yX8_status cX8_status 1 (some .int) :: lwT) rmX8_status (va_Pc [.ref (E.2.1 315)] (PU E I)) (va_Qi Q (BU E) E.2.2.2.1) 0 0 E.2.2.2.1 :=
  ofWalk [.ref (E.2.1 315)] (by decide) tw_c_X8_status (Nat.le_of_ble_eq_true rfl) (fun p e s m below meth c ls X hp hl => w_X8_status_0 X _ _ _ _ h hp hl)

abbrev rmX8_share : Room := { frames := 7, cells := 0, slots := 0, locals := 166 }
theorem vf_X8_share : VF yX8_share RX8 cX8_share 6 (some .int) 1 := ⟨tw_in_X8, tw_im_X8_share, tw_se_X8_share, tw_c_X8_share, by decide, by decide, by decide +kernel⟩
def wp_X8_share_80 (Q : Int32 → II → Prop) (k36 : Int32 → Int32 → Int32 → Int32 → Int32 → II → Prop) (x1 : Int32) (x2 : Int32) (x3 : Int32) (x4 : Int32) (x5 : Int32) (I : II) : Prop := (k36 x1 x2 x3 x4 (x5 + (nI 1)) I)
set_option maxHeartbeats 4000000 in
set_option maxRecDepth 100000 in
theorem w_X8_share_80 {E : EE} {p : Program} {l : Launch} {e : Env} {s : State} {m : MethodId} {args : Array Value} {below : List Frame} {meth : Method} {c : Code} {Q : Int32 → II → Prop} {k36 : Int32 → Int32 → Int32 → Int32 → Int32 → II → Prop} (X : CX E p s m args meth c cX8_share 6 (some .int) RX8) (K36 : ∀ (x1 : Int32) (x2 : Int32) (x3 : Int32) (x4 : Int32) (x5 : Int32) (I : II) (H : Heap) (locs : List Loc) (ls : Array Slot), k36 x1 x2 x3 x4 x5 I → PP E s H locs I → lv_has ls 6 [(0, .ref (E.2.1 315)), (1, .int x1), (2, .int x2), (3, .int x3), (4, .int x4), (5, .int x5)] → W p l e rmX8_share s m args below meth c H locs 0 0 (MQ below (va_Qi Q (BU E) E.2.2.2.1) args s 0 0 E.2.2.2.1) (F0 m 36 ls [])) : ∀ (x1 : Int32) (x2 : Int32) (x3 : Int32) (x4 : Int32) (x5 : Int32) (I : II) (H : Heap) (locs : List Loc) (ls : Array Slot), wp_X8_share_80 Q k36 x1 x2 x3 x4 x5 I → PP E s H locs I → lv_has ls 6 [(0, .ref (E.2.1 315)), (1, .int x1), (2, .int x2), (3, .int x3), (4, .int x4), (5, .int x5)] → W p l e rmX8_share s m args below meth c H locs 0 0 (MQ below (va_Qi Q (BU E) E.2.2.2.1) args s 0 0 E.2.2.2.1) (F0 m 80 ls []) := by
  obtain ⟨⟨hx, hb, hml, hown, hts⟩, hr, hlk, hK, hST, hN⟩ := id X
  intro x1 x2 x3 x4 x5 I H locs ls h hp hl
  unfold wp_X8_share_80 at h
  refine lv_iinc (v := (x5 + (nI 1))) (lv' := [(5, .int (x5 + (nI 1))), (0, .ref (E.2.1 315)), (1, .int x1), (2, .int x2), (3, .int x3), (4, .int x4)]) hx hb dX8_share_80 hl (k := 5) rfl rfl (by decide) rfl (fun ls hl => ?_)
  refine lv_goto (tgt := 36) hx hb dX8_share_83 (by decide) ?_
  exact K36 _ _ _ _ _ _ _ _ _ h hp (lv_sub hl [1, 2, 3, 4, 5, 0] rfl)
def wp_X8_share_36 (Q : Int32 → II → Prop) (k86 : Int32 → Int32 → Int32 → Int32 → II → Prop) : Nat → Int32 → Int32 → Int32 → Int32 → Int32 → II → Prop
  | 0, _, _, _, _, _, _ => False
  | n + 1, x1, x2, x3, x4, x5, I => ((((nI 1) <<< (((nI 2) * x2) &&& 31)) ≤ x5 → (k86 x1 x2 x3 x4 I)) ∧ (¬ ((nI 1) <<< (((nI 2) * x2) &&& 31)) ≤ x5 → (wp_X8_servesBy x5 x2 I (fun r3 I2 => ((r3 = 0 → (wp_X8_share_80 Q (fun x1 x2 x3 x4 x5 I => wp_X8_share_36 Q k86 n x1 x2 x3 x4 x5 I) x1 x2 x3 x4 x5 I2)) ∧ (¬ r3 = 0 → (wp_X8_poorestAt (nI 1323) I2 (fun r6 I5 => ((r6 ≤ x4 → (wp_X8_share_80 Q (fun x1 x2 x3 x4 x5 I => wp_X8_share_36 Q k86 n x1 x2 x3 x4 x5 I) x1 x2 x3 x4 x5 I5)) ∧ (¬ r6 ≤ x4 → (wp_X8_poorestAt (nI 1323) I5 (fun r9 I8 => (wp_X8_share_80 Q (fun x1 x2 x3 x4 x5 I => wp_X8_share_36 Q k86 n x1 x2 x3 x4 x5 I) x1 x2 x5 r9 x5 I8)))))))))))))
set_option maxHeartbeats 4000000 in
set_option maxRecDepth 100000 in
theorem w_X8_share_36 {E : EE} {p : Program} {l : Launch} {e : Env} {s : State} {m : MethodId} {args : Array Value} {below : List Frame} {meth : Method} {c : Code} {Q : Int32 → II → Prop} {k86 : Int32 → Int32 → Int32 → Int32 → II → Prop} (X : CX E p s m args meth c cX8_share 6 (some .int) RX8) (K86 : ∀ (x1 : Int32) (x2 : Int32) (x3 : Int32) (x4 : Int32) (I : II) (H : Heap) (locs : List Loc) (ls : Array Slot), k86 x1 x2 x3 x4 I → PP E s H locs I → lv_has ls 6 [(1, .int x1), (2, .int x2), (3, .int x3), (4, .int x4)] → W p l e rmX8_share s m args below meth c H locs 0 0 (MQ below (va_Qi Q (BU E) E.2.2.2.1) args s 0 0 E.2.2.2.1) (F0 m 86 ls [])) : ∀ (n : Nat) (x1 : Int32) (x2 : Int32) (x3 : Int32) (x4 : Int32) (x5 : Int32) (I : II) (H : Heap) (locs : List Loc) (ls : Array Slot), wp_X8_share_36 Q k86 n x1 x2 x3 x4 x5 I → PP E s H locs I → lv_has ls 6 [(0, .ref (E.2.1 315)), (1, .int x1), (2, .int x2), (3, .int x3), (4, .int x4), (5, .int x5)] → W p l e rmX8_share s m args below meth c H locs 0 0 (MQ below (va_Qi Q (BU E) E.2.2.2.1) args s 0 0 E.2.2.2.1) (F0 m 36 ls []) := by
  obtain ⟨⟨hx, hb, hml, hown, hts⟩, hr, hlk, hK, hST, hN⟩ := id X
  intro n
  induction n with
  | zero =>
    intro x1 x2 x3 x4 x5 I H locs ls h hp hl
    exact False.elim h
  | succ n ih =>
    intro x1 x2 x3 x4 x5 I H locs ls h hp hl
    rw [wp_X8_share_36.eq_2] at h
    refine lv_iload hx hb dX8_share_36 (lv_at hl 5 rfl) ?_
    refine lv_iconst (v := (nI 1)) hx hb dX8_share_38 (by decide) ?_
    refine lv_iconst (v := (nI 2)) hx hb dX8_share_39 (by decide) ?_
    refine lv_iload_n hx hb dX8_share_40 rfl (lv_at hl 2 rfl) ?_
    refine lv_imul hx hb dX8_share_41 ?_
    refine lv_ishl hx hb dX8_share_42 ?_
    refine lv_icmp_ge (tgt := 86) hx hb dX8_share_43 (by decide) (fun c1 => ?_) (fun c1 => ?_)
    · have h := h.1 c1
      exact K86 _ _ _ _ _ _ _ _ h hp (lv_sub hl [1, 2, 3, 4] rfl)
    · have h := h.2 c1
      refine lv_aload_n hx hb dX8_share_46 rfl (lv_at hl 0 rfl) ?_
      refine lv_iload hx hb dX8_share_47 (lv_at hl 5 rfl) ?_
      refine lv_iload_n hx hb dX8_share_49 rfl (lv_at hl 2 rfl) ?_
      refine ki (kV (As := [.int x5, .int x2]) (rest := []) X hp (C_X8_servesBy  h) tw_ml_X8_214 vf_X8_servesBy ⟨rfl, rfl, Nat.le_of_ble_eq_true rfl, Nat.le_of_ble_eq_true rfl⟩ (pr_rcv X hp (k := 315) (by decide) (ob_315 _) (q := (RX8, TX8, 18)) rfl) rfl hl.1 rfl (Nat.le_of_ble_eq_true rfl) dX8_share_50) hp (fun r3 I2 H locs h hp => ?_)
      refine lv_if_eq (tgt := 80) hx hb dX8_share_53 (by decide) (fun c4 => ?_) (fun c4 => ?_)
      · have h := h.1 c4
        exact w_X8_share_80 X ih _ _ _ _ _ _ _ _ _ h hp (lv_sub hl [0, 1, 2, 3, 4, 5] rfl)
      · have h := h.2 c4
        refine lv_aload_n hx hb dX8_share_56 rfl (lv_at hl 0 rfl) ?_
        refine lv_sipush (v := (nI 1323)) hx hb dX8_share_57 (by decide) ?_
        refine ki (kV (As := [.int (nI 1323)]) (rest := []) X hp (C_X8_poorestAt  h) tw_ml_X8_217 vf_X8_poorestAt ⟨rfl, rfl, Nat.le_of_ble_eq_true rfl, Nat.le_of_ble_eq_true rfl⟩ (pr_rcv X hp (k := 315) (by decide) (ob_315 _) (q := (RX8, TX8, 18)) rfl) rfl hl.1 rfl (Nat.le_of_ble_eq_true rfl) dX8_share_60) hp (fun r6 I5 H locs h hp => ?_)
        refine lv_iload hx hb dX8_share_63 (lv_at hl 4 rfl) ?_
        refine lv_icmp_le (tgt := 80) hx hb dX8_share_65 (by decide) (fun c7 => ?_) (fun c7 => ?_)
        · have h := h.1 c7
          exact w_X8_share_80 X ih _ _ _ _ _ _ _ _ _ h hp (lv_sub hl [0, 1, 2, 3, 4, 5] rfl)
        · have h := h.2 c7
          refine lv_aload_n hx hb dX8_share_68 rfl (lv_at hl 0 rfl) ?_
          refine lv_sipush (v := (nI 1323)) hx hb dX8_share_69 (by decide) ?_
          refine ki (kV (As := [.int (nI 1323)]) (rest := []) X hp (C_X8_poorestAt  h) tw_ml_X8_217 vf_X8_poorestAt ⟨rfl, rfl, Nat.le_of_ble_eq_true rfl, Nat.le_of_ble_eq_true rfl⟩ (pr_rcv X hp (k := 315) (by decide) (ob_315 _) (q := (RX8, TX8, 18)) rfl) rfl hl.1 rfl (Nat.le_of_ble_eq_true rfl) dX8_share_72) hp (fun r9 I8 H locs h hp => ?_)
          refine lv_istore (lv' := [(4, .int r9), (0, .ref (E.2.1 315)), (1, .int x1), (2, .int x2), (3, .int x3), (5, .int x5)]) hx hb dX8_share_75 hl (by decide) rfl (fun ls hl => ?_)
          refine lv_iload hx hb dX8_share_77 (lv_at hl 5 rfl) ?_
          refine lv_istore_n (lv' := [(3, .int x5), (4, .int r9), (0, .ref (E.2.1 315)), (1, .int x1), (2, .int x2), (5, .int x5)]) hx hb dX8_share_79 rfl hl (by decide) rfl (fun ls hl => ?_)
          exact w_X8_share_80 X ih _ _ _ _ _ _ _ _ _ h hp (lv_sub hl [2, 3, 4, 0, 1, 5] rfl)
def wp_X8_share (x1 : Int32) (I : II) (Q : Int32 → II → Prop) : Prop := ((¬ (I 315 1) = 0 → (((-nI 1) ≤ x1 → (vp_in (nI 7) 1372 ∧ (∃ n57, wp_X8_share_36 Q (fun x1 x2 x3 x4 I => ((x3 = (-nI 1000000) → (Q (-nI 1000000) I)) ∧ (¬ x3 = (-nI 1000000) → ((x1 < x2 → ((0 ≤ x1 → (Q ((x3 >>> (((nI 2) * ((x2 - (nI 1)) - x1)) &&& 31)) &&& (nI 3)) I)) ∧ (¬ 0 ≤ x1 → (Q x4 I)))) ∧ (¬ x1 < x2 → (Q (-nI 1000000) I)))))) n57 x1 (I 316 (nI 7).toNatClampNeg) (-nI 1000000) (-nI 1000000) (nI 0) I))) ∧ (¬ (-nI 1) ≤ x1 → (Q (-nI 1000001) I)))) ∧ ((I 315 1) = 0 → (Q (-nI 1000002) I)))
set_option maxHeartbeats 4000000 in
set_option maxRecDepth 100000 in
theorem w_X8_share_0 {E : EE} {p : Program} {l : Launch} {e : Env} {s : State} {m : MethodId} {args : Array Value} {below : List Frame} {meth : Method} {c : Code} {Q : Int32 → II → Prop} (X : CX E p s m args meth c cX8_share 6 (some .int) RX8) : ∀ (x1 : Int32) (I : II) (H : Heap) (locs : List Loc) (ls : Array Slot), wp_X8_share x1 I Q → PP E s H locs I → lv_has ls 6 [(0, .ref (E.2.1 315)), (1, .int x1)] → W p l e rmX8_share s m args below meth c H locs 0 0 (MQ below (va_Qi Q (BU E) E.2.2.2.1) args s 0 0 E.2.2.2.1) (F0 m 0 ls []) := by
  obtain ⟨⟨hx, hb, hml, hown, hts⟩, hr, hlk, hK, hST, hN⟩ := id X
  intro x1 I H locs ls h hp hl
  unfold wp_X8_share at h
  refine lv_aload_n hx hb dX8_share_0 rfl (lv_at hl 0 rfl) ?_
  refine f_X8_137 X hp dX8_share_1 ?_
  refine lv_if_ne (tgt := 10) hx hb dX8_share_4 (by decide) (fun c1 => ?_) (fun c1 => ?_)
  · have h := h.1 c1
    refine lv_iload_n hx hb dX8_share_10 rfl (lv_at hl 1 rfl) ?_
    refine lv_iconst (v := (-nI 1)) hx hb dX8_share_11 (by decide) ?_
    refine lv_icmp_ge (tgt := 18) hx hb dX8_share_12 (by decide) (fun c2 => ?_) (fun c2 => ?_)
    · have h := h.1 c2
      refine lv_aload_n hx hb dX8_share_18 rfl (lv_at hl 0 rfl) ?_
      refine f_X8_7 X hp dX8_share_19 ?_
      refine lv_bipush (v := (nI 7)) hx hb dX8_share_22 (by decide) ?_
      have hv3 := h.1
      have h := h.2
      refine al_i X hp ar_s316 hv3 dX8_share_24 ?_
      refine lv_istore_n (lv' := [(2, .int (I 316 (nI 7).toNatClampNeg)), (0, .ref (E.2.1 315)), (1, .int x1)]) hx hb dX8_share_25 rfl hl (by decide) rfl (fun ls hl => ?_)
      refine lv_ldc (v := (-nI 1000000)) hx hb hown (hts _ tw_k_X8_149) dX8_share_26 ?_
      refine lv_istore_n (lv' := [(3, .int (-nI 1000000)), (2, .int (I 316 (nI 7).toNatClampNeg)), (0, .ref (E.2.1 315)), (1, .int x1)]) hx hb dX8_share_28 rfl hl (by decide) rfl (fun ls hl => ?_)
      refine lv_ldc (v := (-nI 1000000)) hx hb hown (hts _ tw_k_X8_149) dX8_share_29 ?_
      refine lv_istore (lv' := [(4, .int (-nI 1000000)), (3, .int (-nI 1000000)), (2, .int (I 316 (nI 7).toNatClampNeg)), (0, .ref (E.2.1 315)), (1, .int x1)]) hx hb dX8_share_31 hl (by decide) rfl (fun ls hl => ?_)
      refine lv_iconst (v := (nI 0)) hx hb dX8_share_33 (by decide) ?_
      refine lv_istore (lv' := [(5, .int (nI 0)), (4, .int (-nI 1000000)), (3, .int (-nI 1000000)), (2, .int (I 316 (nI 7).toNatClampNeg)), (0, .ref (E.2.1 315)), (1, .int x1)]) hx hb dX8_share_34 hl (by decide) rfl (fun ls hl => ?_)
      obtain ⟨n57, h⟩ := h
      refine w_X8_share_36 X ?_ n57 _ _ _ _ _ _ _ _ _ h hp (lv_sub hl [4, 5, 3, 2, 1, 0] rfl)
      · intro x1 x2 x3 x4 I H locs ls h hp hl
        refine lv_iload_n hx hb dX8_share_86 rfl (lv_at hl 2 rfl) ?_
        refine lv_ldc (v := (-nI 1000000)) hx hb hown (hts _ tw_k_X8_149) dX8_share_87 ?_
        refine lv_icmp_eq (tgt := 97) hx hb dX8_share_89 (by decide) (fun c54 => ?_) (fun c54 => ?_)
        · have h := h.1 c54
          refine lv_ldc (v := (-nI 1000000)) hx hb hown (hts _ tw_k_X8_149) dX8_share_97 ?_
          exact rt_i X hp h dX8_share_99
        · have h := h.2 c54
          refine lv_iload_n hx hb dX8_share_92 rfl (lv_at hl 0 rfl) ?_
          refine lv_iload_n hx hb dX8_share_93 rfl (lv_at hl 1 rfl) ?_
          refine lv_icmp_lt (tgt := 100) hx hb dX8_share_94 (by decide) (fun c55 => ?_) (fun c55 => ?_)
          · have h := h.1 c55
            refine lv_iload_n hx hb dX8_share_100 rfl (lv_at hl 0 rfl) ?_
            refine lv_if_ge (tgt := 109) hx hb dX8_share_101 (by decide) (fun c56 => ?_) (fun c56 => ?_)
            · have h := h.1 c56
              refine lv_iload_n hx hb dX8_share_109 rfl (lv_at hl 2 rfl) ?_
              refine lv_iconst (v := (nI 2)) hx hb dX8_share_110 (by decide) ?_
              refine lv_iload_n hx hb dX8_share_111 rfl (lv_at hl 1 rfl) ?_
              refine lv_iconst (v := (nI 1)) hx hb dX8_share_112 (by decide) ?_
              refine lv_isub hx hb dX8_share_113 ?_
              refine lv_iload_n hx hb dX8_share_114 rfl (lv_at hl 0 rfl) ?_
              refine lv_isub hx hb dX8_share_115 ?_
              refine lv_imul hx hb dX8_share_116 ?_
              refine lv_ishr hx hb dX8_share_117 ?_
              refine lv_iconst (v := (nI 3)) hx hb dX8_share_118 (by decide) ?_
              refine lv_iand hx hb dX8_share_119 ?_
              exact rt_i X hp h dX8_share_120
            · have h := h.2 c56
              refine lv_iload hx hb dX8_share_104 (lv_at hl 3 rfl) ?_
              refine lv_goto (tgt := 120) hx hb dX8_share_106 (by decide) ?_
              exact rt_i X hp h dX8_share_120
          · have h := h.2 c55
            refine lv_ldc (v := (-nI 1000000)) hx hb hown (hts _ tw_k_X8_149) dX8_share_97 ?_
            exact rt_i X hp h dX8_share_99
    · have h := h.2 c2
      refine lv_ldc (v := (-nI 1000001)) hx hb hown (hts _ tw_k_X8_55) dX8_share_15 ?_
      exact rt_i X hp h dX8_share_17
  · have h := h.2 c1
    refine lv_ldc (v := (-nI 1000002)) hx hb hown (hts _ tw_k_X8_144) dX8_share_7 ?_
    exact rt_i X hp h dX8_share_9
set_option maxRecDepth 100000 in
theorem C_X8_share {E : EE} {l : Launch} {x1 : Int32} {I : II} {Q : Int32 → II → Prop} (h : wp_X8_share x1 I Q) : Met l yX8_share (Cond.code yX8_share cX8_share 6 (some .int) :: lwT) rmX8_share (va_Pc [.ref (E.2.1 315), .int x1] (PU E I)) (va_Qi Q (BU E) E.2.2.2.1) 0 0 E.2.2.2.1 :=
  ofWalk [.ref (E.2.1 315), .int x1] (by decide) tw_c_X8_share (Nat.le_of_ble_eq_true rfl) (fun p e s m below meth c ls X hp hl => w_X8_share_0 X _ _ _ _ _ h hp hl)
abbrev rmX8_open : Room := { frames := 6, cells := 0, slots := 0, locals := 141 }
theorem vf_X8_open : VF yX8_open RX8 cX8_open 4 (some .int) 1 := ⟨tw_in_X8, tw_im_X8_open, tw_se_X8_open, tw_c_X8_open, by decide, by decide, by decide +kernel⟩
def wp_X8_open_108 (Q : Int32 → II → Prop) (k28 : Int32 → Int32 → Int32 → II → Prop) (x1 : Int32) (x2 : Int32) (x3 : Int32) (I : II) : Prop := (k28 x1 x2 (x3 + (nI 1)) I)
set_option maxHeartbeats 4000000 in
set_option maxRecDepth 100000 in
theorem w_X8_open_108 {E : EE} {p : Program} {l : Launch} {e : Env} {s : State} {m : MethodId} {args : Array Value} {below : List Frame} {meth : Method} {c : Code} {Q : Int32 → II → Prop} {k28 : Int32 → Int32 → Int32 → II → Prop} (X : CX E p s m args meth c cX8_open 4 (some .int) RX8) (K28 : ∀ (x1 : Int32) (x2 : Int32) (x3 : Int32) (I : II) (H : Heap) (locs : List Loc) (ls : Array Slot), k28 x1 x2 x3 I → PP E s H locs I → lv_has ls 4 [(0, .ref (E.2.1 315)), (1, .int x1), (2, .int x2), (3, .int x3)] → W p l e rmX8_open s m args below meth c H locs 0 0 (MQ below (va_Qi Q (BU E) E.2.2.2.1) args s 0 0 E.2.2.2.1) (F0 m 28 ls [])) : ∀ (x1 : Int32) (x2 : Int32) (x3 : Int32) (I : II) (H : Heap) (locs : List Loc) (ls : Array Slot), wp_X8_open_108 Q k28 x1 x2 x3 I → PP E s H locs I → lv_has ls 4 [(0, .ref (E.2.1 315)), (1, .int x1), (2, .int x2), (3, .int x3)] → W p l e rmX8_open s m args below meth c H locs 0 0 (MQ below (va_Qi Q (BU E) E.2.2.2.1) args s 0 0 E.2.2.2.1) (F0 m 108 ls []) := by
  obtain ⟨⟨hx, hb, hml, hown, hts⟩, hr, hlk, hK, hST, hN⟩ := id X
  intro x1 x2 x3 I H locs ls h hp hl
  unfold wp_X8_open_108 at h
  refine lv_iinc (v := (x3 + (nI 1))) (lv' := [(3, .int (x3 + (nI 1))), (0, .ref (E.2.1 315)), (1, .int x1), (2, .int x2)]) hx hb dX8_open_108 hl (k := 3) rfl rfl (by decide) rfl (fun ls hl => ?_)
  refine lv_goto (tgt := 28) hx hb dX8_open_111 (by decide) ?_
  exact K28 _ _ _ _ _ _ _ h hp (lv_sub hl [1, 2, 3, 0] rfl)
def wp_X8_open_107 (Q : Int32 → II → Prop) (k28 : Int32 → Int32 → Int32 → II → Prop) (x1 : Int32) (x3 : Int32) (v0 : Int32) (I : II) : Prop := (wp_X8_open_108 Q k28 x1 v0 x3 I)
set_option maxHeartbeats 4000000 in
set_option maxRecDepth 100000 in
theorem w_X8_open_107 {E : EE} {p : Program} {l : Launch} {e : Env} {s : State} {m : MethodId} {args : Array Value} {below : List Frame} {meth : Method} {c : Code} {Q : Int32 → II → Prop} {k28 : Int32 → Int32 → Int32 → II → Prop} (X : CX E p s m args meth c cX8_open 4 (some .int) RX8) (K28 : ∀ (x1 : Int32) (x2 : Int32) (x3 : Int32) (I : II) (H : Heap) (locs : List Loc) (ls : Array Slot), k28 x1 x2 x3 I → PP E s H locs I → lv_has ls 4 [(0, .ref (E.2.1 315)), (1, .int x1), (2, .int x2), (3, .int x3)] → W p l e rmX8_open s m args below meth c H locs 0 0 (MQ below (va_Qi Q (BU E) E.2.2.2.1) args s 0 0 E.2.2.2.1) (F0 m 28 ls [])) : ∀ (x1 : Int32) (x3 : Int32) (v0 : Int32) (I : II) (H : Heap) (locs : List Loc) (ls : Array Slot), wp_X8_open_107 Q k28 x1 x3 v0 I → PP E s H locs I → lv_has ls 4 [(0, .ref (E.2.1 315)), (1, .int x1), (3, .int x3)] → W p l e rmX8_open s m args below meth c H locs 0 0 (MQ below (va_Qi Q (BU E) E.2.2.2.1) args s 0 0 E.2.2.2.1) (F0 m 107 ls [.int v0]) := by
  obtain ⟨⟨hx, hb, hml, hown, hts⟩, hr, hlk, hK, hST, hN⟩ := id X
  intro x1 x3 v0 I H locs ls h hp hl
  unfold wp_X8_open_107 at h
  refine lv_istore_n (lv' := [(2, .int v0), (0, .ref (E.2.1 315)), (1, .int x1), (3, .int x3)]) hx hb dX8_open_107 rfl hl (by decide) rfl (fun ls hl => ?_)
  exact w_X8_open_108 X K28 _ _ _ _ _ _ _ h hp (lv_sub hl [1, 2, 0, 3] rfl)
def wp_X8_open_57 (Q : Int32 → II → Prop) (k28 : Int32 → Int32 → Int32 → II → Prop) (x1 : Int32) (x2 : Int32) (x3 : Int32) (I : II) : Prop := (wp_X8_layTried (nI 0) I (fun I1 => (vp_in (nI 1329) 1372 ∧ ∀ I4 : II, I4 = su I1 316 (nI 1329).toNatClampNeg x3 → (vp_in (nI 7) 1372 ∧ (wp_X8_passes (nI 1323) (I4 316 (nI 7).toNatClampNeg) I4 (fun I7 => (vp_in (nI 1328) 1372 ∧ (vp_in (nI 5) 1372 ∧ ((¬ (I7 316 (nI 1328).toNatClampNeg) = (I7 316 (nI 5).toNatClampNeg) → (wp_X8_open_107 Q k28 x1 x3 x2 I7)) ∧ ((I7 316 (nI 1328).toNatClampNeg) = (I7 316 (nI 5).toNatClampNeg) → (wp_X8_open_107 Q k28 x1 x3 x3 I7)))))))))))
set_option maxHeartbeats 4000000 in
set_option maxRecDepth 100000 in
theorem w_X8_open_57 {E : EE} {p : Program} {l : Launch} {e : Env} {s : State} {m : MethodId} {args : Array Value} {below : List Frame} {meth : Method} {c : Code} {Q : Int32 → II → Prop} {k28 : Int32 → Int32 → Int32 → II → Prop} (X : CX E p s m args meth c cX8_open 4 (some .int) RX8) (K28 : ∀ (x1 : Int32) (x2 : Int32) (x3 : Int32) (I : II) (H : Heap) (locs : List Loc) (ls : Array Slot), k28 x1 x2 x3 I → PP E s H locs I → lv_has ls 4 [(0, .ref (E.2.1 315)), (1, .int x1), (2, .int x2), (3, .int x3)] → W p l e rmX8_open s m args below meth c H locs 0 0 (MQ below (va_Qi Q (BU E) E.2.2.2.1) args s 0 0 E.2.2.2.1) (F0 m 28 ls [])) : ∀ (x1 : Int32) (x2 : Int32) (x3 : Int32) (I : II) (H : Heap) (locs : List Loc) (ls : Array Slot), wp_X8_open_57 Q k28 x1 x2 x3 I → PP E s H locs I → lv_has ls 4 [(0, .ref (E.2.1 315)), (1, .int x1), (2, .int x2), (3, .int x3)] → W p l e rmX8_open s m args below meth c H locs 0 0 (MQ below (va_Qi Q (BU E) E.2.2.2.1) args s 0 0 E.2.2.2.1) (F0 m 57 ls []) := by
  obtain ⟨⟨hx, hb, hml, hown, hts⟩, hr, hlk, hK, hST, hN⟩ := id X
  intro x1 x2 x3 I H locs ls h hp hl
  unfold wp_X8_open_57 at h
  refine lv_aload_n hx hb dX8_open_57 rfl (lv_at hl 0 rfl) ?_
  refine lv_iconst (v := (nI 0)) hx hb dX8_open_58 (by decide) ?_
  refine kv (kV (As := [.int (nI 0)]) (rest := []) X hp (C_X8_layTried  h) tw_ml_X8_199 vf_X8_layTried ⟨rfl, rfl, Nat.le_of_ble_eq_true rfl, Nat.le_of_ble_eq_true rfl⟩ (pr_rcv X hp (k := 315) (by decide) (ob_315 _) (q := (RX8, TX8, 18)) rfl) rfl hl.1 rfl (Nat.le_of_ble_eq_true rfl) dX8_open_59) hp (fun I1 H locs h hp => ?_)
  refine lv_aload_n hx hb dX8_open_62 rfl (lv_at hl 0 rfl) ?_
  refine f_X8_7 X hp dX8_open_63 ?_
  refine lv_sipush (v := (nI 1329)) hx hb dX8_open_66 (by decide) ?_
  refine lv_iload_n hx hb dX8_open_69 rfl (lv_at hl 3 rfl) ?_
  have hv3 := h.1
  have h := h.2
  refine as_i X hp ar_s316 hv3 dX8_open_70 (fun H locs hp => ?_)
  obtain ⟨I4, e5⟩ : ∃ y, y = su I1 316 (nI 1329).toNatClampNeg x3 := ⟨_, rfl⟩
  have hp : PP E s H locs I4 := by rw [e5]; exact hp
  have h := h I4 e5
  refine lv_aload_n hx hb dX8_open_71 rfl (lv_at hl 0 rfl) ?_
  refine lv_sipush (v := (nI 1323)) hx hb dX8_open_72 (by decide) ?_
  refine lv_aload_n hx hb dX8_open_75 rfl (lv_at hl 0 rfl) ?_
  refine f_X8_7 X hp dX8_open_76 ?_
  refine lv_bipush (v := (nI 7)) hx hb dX8_open_79 (by decide) ?_
  have hv6 := h.1
  have h := h.2
  refine al_i X hp ar_s316 hv6 dX8_open_81 ?_
  refine kv (kV (As := [.int (nI 1323), .int (I4 316 (nI 7).toNatClampNeg)]) (rest := []) X hp (C_X8_passes  h) tw_ml_X8_194 vf_X8_passes ⟨rfl, rfl, Nat.le_of_ble_eq_true rfl, Nat.le_of_ble_eq_true rfl⟩ (pr_rcv X hp (k := 315) (by decide) (ob_315 _) (q := (RX8, TX8, 18)) rfl) rfl hl.1 rfl (Nat.le_of_ble_eq_true rfl) dX8_open_82) hp (fun I7 H locs h hp => ?_)
  refine lv_aload_n hx hb dX8_open_85 rfl (lv_at hl 0 rfl) ?_
  refine f_X8_7 X hp dX8_open_86 ?_
  refine lv_sipush (v := (nI 1328)) hx hb dX8_open_89 (by decide) ?_
  have hv9 := h.1
  have h := h.2
  refine al_i X hp ar_s316 hv9 dX8_open_92 ?_
  refine lv_aload_n hx hb dX8_open_93 rfl (lv_at hl 0 rfl) ?_
  refine f_X8_7 X hp dX8_open_94 ?_
  refine lv_iconst (v := (nI 5)) hx hb dX8_open_97 (by decide) ?_
  have hv10 := h.1
  have h := h.2
  refine al_i X hp ar_s316 hv10 dX8_open_98 ?_
  refine lv_icmp_ne (tgt := 106) hx hb dX8_open_99 (by decide) (fun c11 => ?_) (fun c11 => ?_)
  · have h := h.1 c11
    refine lv_iload_n hx hb dX8_open_106 rfl (lv_at hl 2 rfl) ?_
    exact w_X8_open_107 X K28 _ _ _ _ _ _ _ h hp (lv_sub hl [0, 1, 3] rfl)
  · have h := h.2 c11
    refine lv_iload_n hx hb dX8_open_102 rfl (lv_at hl 3 rfl) ?_
    refine lv_goto (tgt := 107) hx hb dX8_open_103 (by decide) ?_
    exact w_X8_open_107 X K28 _ _ _ _ _ _ _ h hp (lv_sub hl [0, 1, 3] rfl)
def wp_X8_open_28 (Q : Int32 → II → Prop) (k114 : Int32 → Int32 → II → Prop) : Nat → Int32 → Int32 → Int32 → II → Prop
  | 0, _, _, _, _ => False
  | n + 1, x1, x2, x3, I => (vp_in (nI 0) 1372 ∧ ((((nI 1) <<< ((I 316 (nI 0).toNatClampNeg) &&& 31)) ≤ x3 → (k114 x1 x2 I)) ∧ (¬ ((nI 1) <<< ((I 316 (nI 0).toNatClampNeg) &&& 31)) ≤ x3 → ((x2 = (-nI 1000000) → (wp_X8_open_57 Q (fun x1 x2 x3 I => wp_X8_open_28 Q k114 n x1 x2 x3 I) x1 x2 x3 I)) ∧ (¬ x2 = (-nI 1000000) → (wp_X8_bits x3 I (fun r5 I4 => (wp_X8_bits x2 I4 (fun r7 I6 => ((r7 ≤ r5 → (wp_X8_open_108 Q (fun x1 x2 x3 I => wp_X8_open_28 Q k114 n x1 x2 x3 I) x1 x2 x3 I6)) ∧ (¬ r7 ≤ r5 → (wp_X8_open_57 Q (fun x1 x2 x3 I => wp_X8_open_28 Q k114 n x1 x2 x3 I) x1 x2 x3 I6))))))))))))
set_option maxHeartbeats 4000000 in
set_option maxRecDepth 100000 in
theorem w_X8_open_28 {E : EE} {p : Program} {l : Launch} {e : Env} {s : State} {m : MethodId} {args : Array Value} {below : List Frame} {meth : Method} {c : Code} {Q : Int32 → II → Prop} {k114 : Int32 → Int32 → II → Prop} (X : CX E p s m args meth c cX8_open 4 (some .int) RX8) (K114 : ∀ (x1 : Int32) (x2 : Int32) (I : II) (H : Heap) (locs : List Loc) (ls : Array Slot), k114 x1 x2 I → PP E s H locs I → lv_has ls 4 [(1, .int x1), (2, .int x2)] → W p l e rmX8_open s m args below meth c H locs 0 0 (MQ below (va_Qi Q (BU E) E.2.2.2.1) args s 0 0 E.2.2.2.1) (F0 m 114 ls [])) : ∀ (n : Nat) (x1 : Int32) (x2 : Int32) (x3 : Int32) (I : II) (H : Heap) (locs : List Loc) (ls : Array Slot), wp_X8_open_28 Q k114 n x1 x2 x3 I → PP E s H locs I → lv_has ls 4 [(0, .ref (E.2.1 315)), (1, .int x1), (2, .int x2), (3, .int x3)] → W p l e rmX8_open s m args below meth c H locs 0 0 (MQ below (va_Qi Q (BU E) E.2.2.2.1) args s 0 0 E.2.2.2.1) (F0 m 28 ls []) := by
  obtain ⟨⟨hx, hb, hml, hown, hts⟩, hr, hlk, hK, hST, hN⟩ := id X
  intro n
  induction n with
  | zero =>
    intro x1 x2 x3 I H locs ls h hp hl
    exact False.elim h
  | succ n ih =>
    intro x1 x2 x3 I H locs ls h hp hl
    rw [wp_X8_open_28.eq_2] at h
    refine lv_iload_n hx hb dX8_open_28 rfl (lv_at hl 3 rfl) ?_
    refine lv_iconst (v := (nI 1)) hx hb dX8_open_29 (by decide) ?_
    refine lv_aload_n hx hb dX8_open_30 rfl (lv_at hl 0 rfl) ?_
    refine f_X8_7 X hp dX8_open_31 ?_
    refine lv_iconst (v := (nI 0)) hx hb dX8_open_34 (by decide) ?_
    have hv1 := h.1
    have h := h.2
    refine al_i X hp ar_s316 hv1 dX8_open_35 ?_
    refine lv_ishl hx hb dX8_open_36 ?_
    refine lv_icmp_ge (tgt := 114) hx hb dX8_open_37 (by decide) (fun c2 => ?_) (fun c2 => ?_)
    · have h := h.1 c2
      exact K114 _ _ _ _ _ _ h hp (lv_sub hl [1, 2] rfl)
    · have h := h.2 c2
      refine lv_iload_n hx hb dX8_open_40 rfl (lv_at hl 2 rfl) ?_
      refine lv_ldc (v := (-nI 1000000)) hx hb hown (hts _ tw_k_X8_149) dX8_open_41 ?_
      refine lv_icmp_eq (tgt := 57) hx hb dX8_open_43 (by decide) (fun c3 => ?_) (fun c3 => ?_)
      · have h := h.1 c3
        exact w_X8_open_57 X ih _ _ _ _ _ _ _ h hp (lv_sub hl [0, 1, 2, 3] rfl)
      · have h := h.2 c3
        refine lv_iload_n hx hb dX8_open_46 rfl (lv_at hl 3 rfl) ?_
        refine ki (kS (As := [.int x3]) (rest := []) X hp (C_X8_bits  h) tw_ml_X8_220 sf_X8_bits ⟨rfl, rfl, Nat.le_of_ble_eq_true rfl, Nat.le_of_ble_eq_true rfl⟩ rfl hl.1 rfl (Nat.le_of_ble_eq_true rfl) dX8_open_47) hp (fun r5 I4 H locs h hp => ?_)
        refine lv_iload_n hx hb dX8_open_50 rfl (lv_at hl 2 rfl) ?_
        refine ki (kS (As := [.int x2]) (rest := [.int r5]) X hp (C_X8_bits  h) tw_ml_X8_220 sf_X8_bits ⟨rfl, rfl, Nat.le_of_ble_eq_true rfl, Nat.le_of_ble_eq_true rfl⟩ rfl hl.1 rfl (Nat.le_of_ble_eq_true rfl) dX8_open_51) hp (fun r7 I6 H locs h hp => ?_)
        refine lv_icmp_ge (tgt := 108) hx hb dX8_open_54 (by decide) (fun c8 => ?_) (fun c8 => ?_)
        · have h := h.1 c8
          exact w_X8_open_108 X ih _ _ _ _ _ _ _ h hp (lv_sub hl [0, 1, 2, 3] rfl)
        · have h := h.2 c8
          exact w_X8_open_57 X ih _ _ _ _ _ _ _ h hp (lv_sub hl [0, 1, 2, 3] rfl)
def wp_X8_open_125 (Q : Int32 → II → Prop) (x2 : Int32) (I : II) : Prop := (Q x2 I)
set_option maxHeartbeats 4000000 in
set_option maxRecDepth 100000 in
theorem w_X8_open_125 {E : EE} {p : Program} {l : Launch} {e : Env} {s : State} {m : MethodId} {args : Array Value} {below : List Frame} {meth : Method} {c : Code} {Q : Int32 → II → Prop} (X : CX E p s m args meth c cX8_open 4 (some .int) RX8) : ∀ (x2 : Int32) (I : II) (H : Heap) (locs : List Loc) (ls : Array Slot), wp_X8_open_125 Q x2 I → PP E s H locs I → lv_has ls 4 [(2, .int x2)] → W p l e rmX8_open s m args below meth c H locs 0 0 (MQ below (va_Qi Q (BU E) E.2.2.2.1) args s 0 0 E.2.2.2.1) (F0 m 125 ls []) := by
  obtain ⟨⟨hx, hb, hml, hown, hts⟩, hr, hlk, hK, hST, hN⟩ := id X
  intro x2 I H locs ls h hp hl
  unfold wp_X8_open_125 at h
  refine lv_iload_n hx hb dX8_open_125 rfl (lv_at hl 0 rfl) ?_
  refine lv_goto (tgt := 133) hx hb dX8_open_126 (by decide) ?_
  exact rt_i X hp h dX8_open_133
def wp_X8_open (x1 : Int32) (I : II) (Q : Int32 → II → Prop) : Prop := ((¬ (I 315 1) = 0 → (wp_X8_in x1.toInt64 (lN 0) (lN 1) I (fun r3 I2 => ((¬ r3 = 0 → (∃ n59, wp_X8_open_28 Q (fun x1 x2 I => ((x2 = (-nI 1000000) → (wp_X8_open_125 Q x2 I)) ∧ (¬ x2 = (-nI 1000000) → ((¬ x1 = (nI 1) → (wp_X8_bits x2 I (fun r58 I57 => (Q r58 I57)))) ∧ (x1 = (nI 1) → (wp_X8_open_125 Q x2 I)))))) n59 x1 (-nI 1000000) (nI 0) I2)) ∧ (r3 = 0 → (Q (-nI 1000001) I2)))))) ∧ ((I 315 1) = 0 → (Q (-nI 1000002) I)))
set_option maxHeartbeats 4000000 in
set_option maxRecDepth 100000 in
theorem w_X8_open_0 {E : EE} {p : Program} {l : Launch} {e : Env} {s : State} {m : MethodId} {args : Array Value} {below : List Frame} {meth : Method} {c : Code} {Q : Int32 → II → Prop} (X : CX E p s m args meth c cX8_open 4 (some .int) RX8) : ∀ (x1 : Int32) (I : II) (H : Heap) (locs : List Loc) (ls : Array Slot), wp_X8_open x1 I Q → PP E s H locs I → lv_has ls 4 [(0, .ref (E.2.1 315)), (1, .int x1)] → W p l e rmX8_open s m args below meth c H locs 0 0 (MQ below (va_Qi Q (BU E) E.2.2.2.1) args s 0 0 E.2.2.2.1) (F0 m 0 ls []) := by
  obtain ⟨⟨hx, hb, hml, hown, hts⟩, hr, hlk, hK, hST, hN⟩ := id X
  intro x1 I H locs ls h hp hl
  unfold wp_X8_open at h
  refine lv_aload_n hx hb dX8_open_0 rfl (lv_at hl 0 rfl) ?_
  refine f_X8_137 X hp dX8_open_1 ?_
  refine lv_if_ne (tgt := 10) hx hb dX8_open_4 (by decide) (fun c1 => ?_) (fun c1 => ?_)
  · have h := h.1 c1
    refine lv_iload_n hx hb dX8_open_10 rfl (lv_at hl 1 rfl) ?_
    refine lv_i2l (v := x1.toInt64) hx hb dX8_open_11 rfl ?_
    refine lv_lconst (v := (lN 0)) hx hb dX8_open_12 (by decide) ?_
    refine lv_lconst (v := (lN 1)) hx hb dX8_open_13 (by decide) ?_
    refine ki (kS (As := [.long x1.toInt64, .long (lN 0), .long (lN 1)]) (rest := []) X hp (C_X8_in  h) tw_ml_X8_45 sf_X8_in ⟨rfl, rfl, Nat.le_of_ble_eq_true rfl, Nat.le_of_ble_eq_true rfl⟩ rfl hl.1 rfl (Nat.le_of_ble_eq_true rfl) dX8_open_14) hp (fun r3 I2 H locs h hp => ?_)
    refine lv_if_ne (tgt := 23) hx hb dX8_open_17 (by decide) (fun c4 => ?_) (fun c4 => ?_)
    · have h := h.1 c4
      refine lv_ldc (v := (-nI 1000000)) hx hb hown (hts _ tw_k_X8_149) dX8_open_23 ?_
      refine lv_istore_n (lv' := [(2, .int (-nI 1000000)), (0, .ref (E.2.1 315)), (1, .int x1)]) hx hb dX8_open_25 rfl hl (by decide) rfl (fun ls hl => ?_)
      refine lv_iconst (v := (nI 0)) hx hb dX8_open_26 (by decide) ?_
      refine lv_istore_n (lv' := [(3, .int (nI 0)), (2, .int (-nI 1000000)), (0, .ref (E.2.1 315)), (1, .int x1)]) hx hb dX8_open_27 rfl hl (by decide) rfl (fun ls hl => ?_)
      obtain ⟨n59, h⟩ := h
      refine w_X8_open_28 X ?_ n59 _ _ _ _ _ _ _ h hp (lv_sub hl [2, 3, 1, 0] rfl)
      · intro x1 x2 I H locs ls h hp hl
        refine lv_iload_n hx hb dX8_open_114 rfl (lv_at hl 1 rfl) ?_
        refine lv_ldc (v := (-nI 1000000)) hx hb hown (hts _ tw_k_X8_149) dX8_open_115 ?_
        refine lv_icmp_eq (tgt := 125) hx hb dX8_open_117 (by decide) (fun c55 => ?_) (fun c55 => ?_)
        · have h := h.1 c55
          exact w_X8_open_125 X  _ _ _ _ _ h hp (lv_sub hl [1] rfl)
        · have h := h.2 c55
          refine lv_iload_n hx hb dX8_open_120 rfl (lv_at hl 0 rfl) ?_
          refine lv_iconst (v := (nI 1)) hx hb dX8_open_121 (by decide) ?_
          refine lv_icmp_ne (tgt := 129) hx hb dX8_open_122 (by decide) (fun c56 => ?_) (fun c56 => ?_)
          · have h := h.1 c56
            refine lv_iload_n hx hb dX8_open_129 rfl (lv_at hl 1 rfl) ?_
            refine ki (kS (As := [.int x2]) (rest := []) X hp (C_X8_bits  h) tw_ml_X8_220 sf_X8_bits ⟨rfl, rfl, Nat.le_of_ble_eq_true rfl, Nat.le_of_ble_eq_true rfl⟩ rfl hl.1 rfl (Nat.le_of_ble_eq_true rfl) dX8_open_130) hp (fun r58 I57 H locs h hp => ?_)
            exact rt_i X hp h dX8_open_133
          · have h := h.2 c56
            exact w_X8_open_125 X  _ _ _ _ _ h hp (lv_sub hl [1] rfl)
    · have h := h.2 c4
      refine lv_ldc (v := (-nI 1000001)) hx hb hown (hts _ tw_k_X8_55) dX8_open_20 ?_
      exact rt_i X hp h dX8_open_22
  · have h := h.2 c1
    refine lv_ldc (v := (-nI 1000002)) hx hb hown (hts _ tw_k_X8_144) dX8_open_7 ?_
    exact rt_i X hp h dX8_open_9
set_option maxRecDepth 100000 in
theorem C_X8_open {E : EE} {l : Launch} {x1 : Int32} {I : II} {Q : Int32 → II → Prop} (h : wp_X8_open x1 I Q) : Met l yX8_open (Cond.code yX8_open cX8_open 4 (some .int) :: lwT) rmX8_open (va_Pc [.ref (E.2.1 315), .int x1] (PU E I)) (va_Qi Q (BU E) E.2.2.2.1) 0 0 E.2.2.2.1 :=
  ofWalk [.ref (E.2.1 315), .int x1] (by decide) tw_c_X8_open (Nat.le_of_ble_eq_true rfl) (fun p e s m below meth c ls X hp hl => w_X8_open_0 X _ _ _ _ _ h hp hl)
abbrev rmX8_cheap : Room := { frames := 1, cells := 0, slots := 0, locals := 25 }
theorem vf_X8_cheap : VF yX8_cheap RX8 cX8_cheap 5 (some .int) 2 := ⟨tw_in_X8, tw_im_X8_cheap, tw_se_X8_cheap, tw_c_X8_cheap, by decide, by decide, by decide +kernel⟩
def wp_X8_cheap_75 (Q : Int32 → II → Prop) (k40 : Int32 → Int32 → Int32 → Int32 → II → Prop) (x1 : Int32) (x2 : Int32) (x4 : Int32) (v0 : Int32) (I : II) : Prop := (k40 x1 x2 v0 (x4 + (nI 1)) I)
set_option maxHeartbeats 4000000 in
set_option maxRecDepth 100000 in
theorem w_X8_cheap_75 {E : EE} {p : Program} {l : Launch} {e : Env} {s : State} {m : MethodId} {args : Array Value} {below : List Frame} {meth : Method} {c : Code} {Q : Int32 → II → Prop} {k40 : Int32 → Int32 → Int32 → Int32 → II → Prop} (X : CX E p s m args meth c cX8_cheap 5 (some .int) RX8) (K40 : ∀ (x1 : Int32) (x2 : Int32) (x3 : Int32) (x4 : Int32) (I : II) (H : Heap) (locs : List Loc) (ls : Array Slot), k40 x1 x2 x3 x4 I → PP E s H locs I → lv_has ls 5 [(0, .ref (E.2.1 315)), (1, .int x1), (2, .int x2), (3, .int x3), (4, .int x4)] → W p l e rmX8_cheap s m args below meth c H locs 0 0 (MQ below (va_Qi Q (BU E) E.2.2.2.1) args s 0 0 E.2.2.2.1) (F0 m 40 ls [])) : ∀ (x1 : Int32) (x2 : Int32) (x4 : Int32) (v0 : Int32) (I : II) (H : Heap) (locs : List Loc) (ls : Array Slot), wp_X8_cheap_75 Q k40 x1 x2 x4 v0 I → PP E s H locs I → lv_has ls 5 [(0, .ref (E.2.1 315)), (1, .int x1), (2, .int x2), (4, .int x4)] → W p l e rmX8_cheap s m args below meth c H locs 0 0 (MQ below (va_Qi Q (BU E) E.2.2.2.1) args s 0 0 E.2.2.2.1) (F0 m 75 ls [.int v0]) := by
  obtain ⟨⟨hx, hb, hml, hown, hts⟩, hr, hlk, hK, hST, hN⟩ := id X
  intro x1 x2 x4 v0 I H locs ls h hp hl
  unfold wp_X8_cheap_75 at h
  refine lv_istore_n (lv' := [(3, .int v0), (0, .ref (E.2.1 315)), (1, .int x1), (2, .int x2), (4, .int x4)]) hx hb dX8_cheap_75 rfl hl (by decide) rfl (fun ls hl => ?_)
  refine lv_iinc (v := (x4 + (nI 1))) (lv' := [(4, .int (x4 + (nI 1))), (3, .int v0), (0, .ref (E.2.1 315)), (1, .int x1), (2, .int x2)]) hx hb dX8_cheap_76 hl (k := 4) rfl rfl (by decide) rfl (fun ls hl => ?_)
  refine lv_goto (tgt := 40) hx hb dX8_cheap_79 (by decide) ?_
  exact K40 _ _ _ _ _ _ _ _ h hp (lv_sub hl [2, 3, 4, 1, 0] rfl)
def wp_X8_cheap_40 (Q : Int32 → II → Prop) (k82 : Int32 → Int32 → Int32 → II → Prop) : Nat → Int32 → Int32 → Int32 → Int32 → II → Prop
  | 0, _, _, _, _, _ => False
  | n + 1, x1, x2, x3, x4, I => (vp_in (nI 0) 1372 ∧ (((I 316 (nI 0).toNatClampNeg) ≤ x4 → (k82 x1 x2 x3 I)) ∧ (¬ (I 316 (nI 0).toNatClampNeg) ≤ x4 → (wp_X8_costOf (nI 0) x4 x1 I (fun r4 I3 => (wp_X8_costOf (nI 0) x3 x1 I3 (fun r6 I5 => ((r6 ≤ r4 → (wp_X8_cheap_75 Q (fun x1 x2 x3 x4 I => wp_X8_cheap_40 Q k82 n x1 x2 x3 x4 I) x1 x2 x4 x3 I5)) ∧ (¬ r6 ≤ r4 → (wp_X8_cheap_75 Q (fun x1 x2 x3 x4 I => wp_X8_cheap_40 Q k82 n x1 x2 x3 x4 I) x1 x2 x4 x4 I5))))))))))
set_option maxHeartbeats 4000000 in
set_option maxRecDepth 100000 in
theorem w_X8_cheap_40 {E : EE} {p : Program} {l : Launch} {e : Env} {s : State} {m : MethodId} {args : Array Value} {below : List Frame} {meth : Method} {c : Code} {Q : Int32 → II → Prop} {k82 : Int32 → Int32 → Int32 → II → Prop} (X : CX E p s m args meth c cX8_cheap 5 (some .int) RX8) (K82 : ∀ (x1 : Int32) (x2 : Int32) (x3 : Int32) (I : II) (H : Heap) (locs : List Loc) (ls : Array Slot), k82 x1 x2 x3 I → PP E s H locs I → lv_has ls 5 [(0, .ref (E.2.1 315)), (1, .int x1), (2, .int x2), (3, .int x3)] → W p l e rmX8_cheap s m args below meth c H locs 0 0 (MQ below (va_Qi Q (BU E) E.2.2.2.1) args s 0 0 E.2.2.2.1) (F0 m 82 ls [])) : ∀ (n : Nat) (x1 : Int32) (x2 : Int32) (x3 : Int32) (x4 : Int32) (I : II) (H : Heap) (locs : List Loc) (ls : Array Slot), wp_X8_cheap_40 Q k82 n x1 x2 x3 x4 I → PP E s H locs I → lv_has ls 5 [(0, .ref (E.2.1 315)), (1, .int x1), (2, .int x2), (3, .int x3), (4, .int x4)] → W p l e rmX8_cheap s m args below meth c H locs 0 0 (MQ below (va_Qi Q (BU E) E.2.2.2.1) args s 0 0 E.2.2.2.1) (F0 m 40 ls []) := by
  obtain ⟨⟨hx, hb, hml, hown, hts⟩, hr, hlk, hK, hST, hN⟩ := id X
  intro n
  induction n with
  | zero =>
    intro x1 x2 x3 x4 I H locs ls h hp hl
    exact False.elim h
  | succ n ih =>
    intro x1 x2 x3 x4 I H locs ls h hp hl
    rw [wp_X8_cheap_40.eq_2] at h
    refine lv_iload hx hb dX8_cheap_40 (lv_at hl 4 rfl) ?_
    refine lv_aload_n hx hb dX8_cheap_42 rfl (lv_at hl 0 rfl) ?_
    refine f_X8_7 X hp dX8_cheap_43 ?_
    refine lv_iconst (v := (nI 0)) hx hb dX8_cheap_46 (by decide) ?_
    have hv1 := h.1
    have h := h.2
    refine al_i X hp ar_s316 hv1 dX8_cheap_47 ?_
    refine lv_icmp_ge (tgt := 82) hx hb dX8_cheap_48 (by decide) (fun c2 => ?_) (fun c2 => ?_)
    · have h := h.1 c2
      exact K82 _ _ _ _ _ _ _ h hp (lv_sub hl [0, 1, 2, 3] rfl)
    · have h := h.2 c2
      refine lv_aload_n hx hb dX8_cheap_51 rfl (lv_at hl 0 rfl) ?_
      refine lv_iconst (v := (nI 0)) hx hb dX8_cheap_52 (by decide) ?_
      refine lv_iload hx hb dX8_cheap_53 (lv_at hl 4 rfl) ?_
      refine lv_iload_n hx hb dX8_cheap_55 rfl (lv_at hl 1 rfl) ?_
      refine ki (kV (As := [.int (nI 0), .int x4, .int x1]) (rest := []) X hp (C_X8_costOf  h) tw_ml_X8_145 vf_X8_costOf ⟨rfl, rfl, Nat.le_of_ble_eq_true rfl, Nat.le_of_ble_eq_true rfl⟩ (pr_rcv X hp (k := 315) (by decide) (ob_315 _) (q := (RX8, TX8, 18)) rfl) rfl hl.1 rfl (Nat.le_of_ble_eq_true rfl) dX8_cheap_56) hp (fun r4 I3 H locs h hp => ?_)
      refine lv_aload_n hx hb dX8_cheap_59 rfl (lv_at hl 0 rfl) ?_
      refine lv_iconst (v := (nI 0)) hx hb dX8_cheap_60 (by decide) ?_
      refine lv_iload_n hx hb dX8_cheap_61 rfl (lv_at hl 3 rfl) ?_
      refine lv_iload_n hx hb dX8_cheap_62 rfl (lv_at hl 1 rfl) ?_
      refine ki (kV (As := [.int (nI 0), .int x3, .int x1]) (rest := [.int r4]) X hp (C_X8_costOf  h) tw_ml_X8_145 vf_X8_costOf ⟨rfl, rfl, Nat.le_of_ble_eq_true rfl, Nat.le_of_ble_eq_true rfl⟩ (pr_rcv X hp (k := 315) (by decide) (ob_315 _) (q := (RX8, TX8, 18)) rfl) rfl hl.1 rfl (Nat.le_of_ble_eq_true rfl) dX8_cheap_63) hp (fun r6 I5 H locs h hp => ?_)
      refine lv_icmp_ge (tgt := 74) hx hb dX8_cheap_66 (by decide) (fun c7 => ?_) (fun c7 => ?_)
      · have h := h.1 c7
        refine lv_iload_n hx hb dX8_cheap_74 rfl (lv_at hl 3 rfl) ?_
        exact w_X8_cheap_75 X ih _ _ _ _ _ _ _ _ h hp (lv_sub hl [0, 1, 2, 4] rfl)
      · have h := h.2 c7
        refine lv_iload hx hb dX8_cheap_69 (lv_at hl 4 rfl) ?_
        refine lv_goto (tgt := 75) hx hb dX8_cheap_71 (by decide) ?_
        exact w_X8_cheap_75 X ih _ _ _ _ _ _ _ _ h hp (lv_sub hl [0, 1, 2, 4] rfl)
def wp_X8_cheap (x1 : Int32) (x2 : Int32) (I : II) (Q : Int32 → II → Prop) : Prop := ((¬ (I 315 1) = 0 → (wp_X8_in x1.toInt64 (lN 1) (lN 30) I (fun r3 I2 => ((r3 = 0 → (Q (-nI 1000001) I2)) ∧ (¬ r3 = 0 → (wp_X8_in x2.toInt64 (lN 0) (lN 1) I2 (fun r6 I5 => ((¬ r6 = 0 → (∃ n61, wp_X8_cheap_40 Q (fun x1 x2 x3 I => ((¬ x2 = 0 → (wp_X8_costOf (nI 0) x3 x1 I (fun r60 I59 => (Q r60 I59)))) ∧ (x2 = 0 → (Q x3 I)))) n61 x1 x2 (nI 0) (nI 1) I5)) ∧ (r6 = 0 → (Q (-nI 1000001) I5)))))))))) ∧ ((I 315 1) = 0 → (Q (-nI 1000002) I)))
set_option maxHeartbeats 4000000 in
set_option maxRecDepth 100000 in
theorem w_X8_cheap_0 {E : EE} {p : Program} {l : Launch} {e : Env} {s : State} {m : MethodId} {args : Array Value} {below : List Frame} {meth : Method} {c : Code} {Q : Int32 → II → Prop} (X : CX E p s m args meth c cX8_cheap 5 (some .int) RX8) : ∀ (x1 : Int32) (x2 : Int32) (I : II) (H : Heap) (locs : List Loc) (ls : Array Slot), wp_X8_cheap x1 x2 I Q → PP E s H locs I → lv_has ls 5 [(0, .ref (E.2.1 315)), (1, .int x1), (2, .int x2)] → W p l e rmX8_cheap s m args below meth c H locs 0 0 (MQ below (va_Qi Q (BU E) E.2.2.2.1) args s 0 0 E.2.2.2.1) (F0 m 0 ls []) := by
  obtain ⟨⟨hx, hb, hml, hown, hts⟩, hr, hlk, hK, hST, hN⟩ := id X
  intro x1 x2 I H locs ls h hp hl
  unfold wp_X8_cheap at h
  refine lv_aload_n hx hb dX8_cheap_0 rfl (lv_at hl 0 rfl) ?_
  refine f_X8_137 X hp dX8_cheap_1 ?_
  refine lv_if_ne (tgt := 10) hx hb dX8_cheap_4 (by decide) (fun c1 => ?_) (fun c1 => ?_)
  · have h := h.1 c1
    refine lv_iload_n hx hb dX8_cheap_10 rfl (lv_at hl 1 rfl) ?_
    refine lv_i2l (v := x1.toInt64) hx hb dX8_cheap_11 rfl ?_
    refine lv_lconst (v := (lN 1)) hx hb dX8_cheap_12 (by decide) ?_
    refine lv_ldc2 (v := (lN 30)) hx hb hown (hts _ tw_kl_X8_181) dX8_cheap_13 ?_
    refine ki (kS (As := [.long x1.toInt64, .long (lN 1), .long (lN 30)]) (rest := []) X hp (C_X8_in  h) tw_ml_X8_45 sf_X8_in ⟨rfl, rfl, Nat.le_of_ble_eq_true rfl, Nat.le_of_ble_eq_true rfl⟩ rfl hl.1 rfl (Nat.le_of_ble_eq_true rfl) dX8_cheap_16) hp (fun r3 I2 H locs h hp => ?_)
    refine lv_if_eq (tgt := 32) hx hb dX8_cheap_19 (by decide) (fun c4 => ?_) (fun c4 => ?_)
    · have h := h.1 c4
      refine lv_ldc (v := (-nI 1000001)) hx hb hown (hts _ tw_k_X8_55) dX8_cheap_32 ?_
      exact rt_i X hp h dX8_cheap_34
    · have h := h.2 c4
      refine lv_iload_n hx hb dX8_cheap_22 rfl (lv_at hl 2 rfl) ?_
      refine lv_i2l (v := x2.toInt64) hx hb dX8_cheap_23 rfl ?_
      refine lv_lconst (v := (lN 0)) hx hb dX8_cheap_24 (by decide) ?_
      refine lv_lconst (v := (lN 1)) hx hb dX8_cheap_25 (by decide) ?_
      refine ki (kS (As := [.long x2.toInt64, .long (lN 0), .long (lN 1)]) (rest := []) X hp (C_X8_in  h) tw_ml_X8_45 sf_X8_in ⟨rfl, rfl, Nat.le_of_ble_eq_true rfl, Nat.le_of_ble_eq_true rfl⟩ rfl hl.1 rfl (Nat.le_of_ble_eq_true rfl) dX8_cheap_26) hp (fun r6 I5 H locs h hp => ?_)
      refine lv_if_ne (tgt := 35) hx hb dX8_cheap_29 (by decide) (fun c7 => ?_) (fun c7 => ?_)
      · have h := h.1 c7
        refine lv_iconst (v := (nI 0)) hx hb dX8_cheap_35 (by decide) ?_
        refine lv_istore_n (lv' := [(3, .int (nI 0)), (0, .ref (E.2.1 315)), (1, .int x1), (2, .int x2)]) hx hb dX8_cheap_36 rfl hl (by decide) rfl (fun ls hl => ?_)
        refine lv_iconst (v := (nI 1)) hx hb dX8_cheap_37 (by decide) ?_
        refine lv_istore (lv' := [(4, .int (nI 1)), (3, .int (nI 0)), (0, .ref (E.2.1 315)), (1, .int x1), (2, .int x2)]) hx hb dX8_cheap_38 hl (by decide) rfl (fun ls hl => ?_)
        obtain ⟨n61, h⟩ := h
        refine w_X8_cheap_40 X ?_ n61 _ _ _ _ _ _ _ _ h hp (lv_sub hl [2, 3, 4, 1, 0] rfl)
        · intro x1 x2 x3 I H locs ls h hp hl
          refine lv_iload_n hx hb dX8_cheap_82 rfl (lv_at hl 2 rfl) ?_
          refine lv_if_ne (tgt := 90) hx hb dX8_cheap_83 (by decide) (fun c58 => ?_) (fun c58 => ?_)
          · have h := h.1 c58
            refine lv_aload_n hx hb dX8_cheap_90 rfl (lv_at hl 0 rfl) ?_
            refine lv_iconst (v := (nI 0)) hx hb dX8_cheap_91 (by decide) ?_
            refine lv_iload_n hx hb dX8_cheap_92 rfl (lv_at hl 3 rfl) ?_
            refine lv_iload_n hx hb dX8_cheap_93 rfl (lv_at hl 1 rfl) ?_
            refine ki (kV (As := [.int (nI 0), .int x3, .int x1]) (rest := []) X hp (C_X8_costOf  h) tw_ml_X8_145 vf_X8_costOf ⟨rfl, rfl, Nat.le_of_ble_eq_true rfl, Nat.le_of_ble_eq_true rfl⟩ (pr_rcv X hp (k := 315) (by decide) (ob_315 _) (q := (RX8, TX8, 18)) rfl) rfl hl.1 rfl (Nat.le_of_ble_eq_true rfl) dX8_cheap_94) hp (fun r60 I59 H locs h hp => ?_)
            exact rt_i X hp h dX8_cheap_97
          · have h := h.2 c58
            refine lv_iload_n hx hb dX8_cheap_86 rfl (lv_at hl 3 rfl) ?_
            refine lv_goto (tgt := 97) hx hb dX8_cheap_87 (by decide) ?_
            exact rt_i X hp h dX8_cheap_97
      · have h := h.2 c7
        refine lv_ldc (v := (-nI 1000001)) hx hb hown (hts _ tw_k_X8_55) dX8_cheap_32 ?_
        exact rt_i X hp h dX8_cheap_34
  · have h := h.2 c1
    refine lv_ldc (v := (-nI 1000002)) hx hb hown (hts _ tw_k_X8_144) dX8_cheap_7 ?_
    exact rt_i X hp h dX8_cheap_9
set_option maxRecDepth 100000 in
theorem C_X8_cheap {E : EE} {l : Launch} {x1 : Int32} {x2 : Int32} {I : II} {Q : Int32 → II → Prop} (h : wp_X8_cheap x1 x2 I Q) : Met l yX8_cheap (Cond.code yX8_cheap cX8_cheap 5 (some .int) :: lwT) rmX8_cheap (va_Pc [.ref (E.2.1 315), .int x1, .int x2] (PU E I)) (va_Qi Q (BU E) E.2.2.2.1) 0 0 E.2.2.2.1 :=
  ofWalk [.ref (E.2.1 315), .int x1, .int x2] (by decide) tw_c_X8_cheap (Nat.le_of_ble_eq_true rfl) (fun p e s m below meth c ls X hp hl => w_X8_cheap_0 X _ _ _ _ _ _ h hp hl)
abbrev rmX8_most : Room := { frames := 2, cells := 0, slots := 0, locals := 47 }
theorem vf_X8_most : VF yX8_most RX8 cX8_most 3 (some .int) 0 := ⟨tw_in_X8, tw_im_X8_most, tw_se_X8_most, tw_c_X8_most, by decide, by decide, by decide +kernel⟩
def wp_X8_most_55 (Q : Int32 → II → Prop) (k19 : Int32 → Int32 → II → Prop) (x1 : Int32) (x2 : Int32) (I : II) : Prop := (k19 x1 (x2 + (nI 1)) I)
set_option maxHeartbeats 4000000 in
set_option maxRecDepth 100000 in
theorem w_X8_most_55 {E : EE} {p : Program} {l : Launch} {e : Env} {s : State} {m : MethodId} {args : Array Value} {below : List Frame} {meth : Method} {c : Code} {Q : Int32 → II → Prop} {k19 : Int32 → Int32 → II → Prop} (X : CX E p s m args meth c cX8_most 3 (some .int) RX8) (K19 : ∀ (x1 : Int32) (x2 : Int32) (I : II) (H : Heap) (locs : List Loc) (ls : Array Slot), k19 x1 x2 I → PP E s H locs I → lv_has ls 3 [(0, .ref (E.2.1 315)), (1, .int x1), (2, .int x2)] → W p l e rmX8_most s m args below meth c H locs 0 0 (MQ below (va_Qi Q (BU E) E.2.2.2.1) args s 0 0 E.2.2.2.1) (F0 m 19 ls [])) : ∀ (x1 : Int32) (x2 : Int32) (I : II) (H : Heap) (locs : List Loc) (ls : Array Slot), wp_X8_most_55 Q k19 x1 x2 I → PP E s H locs I → lv_has ls 3 [(0, .ref (E.2.1 315)), (1, .int x1), (2, .int x2)] → W p l e rmX8_most s m args below meth c H locs 0 0 (MQ below (va_Qi Q (BU E) E.2.2.2.1) args s 0 0 E.2.2.2.1) (F0 m 55 ls []) := by
  obtain ⟨⟨hx, hb, hml, hown, hts⟩, hr, hlk, hK, hST, hN⟩ := id X
  intro x1 x2 I H locs ls h hp hl
  unfold wp_X8_most_55 at h
  refine lv_iinc (v := (x2 + (nI 1))) (lv' := [(2, .int (x2 + (nI 1))), (0, .ref (E.2.1 315)), (1, .int x1)]) hx hb dX8_most_55 hl (k := 2) rfl rfl (by decide) rfl (fun ls hl => ?_)
  refine lv_goto (tgt := 19) hx hb dX8_most_58 (by decide) ?_
  exact K19 _ _ _ _ _ _ h hp (lv_sub hl [1, 2, 0] rfl)
def wp_X8_most_19 (Q : Int32 → II → Prop) (k53 : Int32 → II → Prop) (k61 : Int32 → II → Prop) : Nat → Int32 → Int32 → II → Prop
  | 0, _, _, _ => False
  | n + 1, x1, x2, I => (vp_in (nI 0) 1372 ∧ (((I 316 (nI 0).toNatClampNeg) ≤ x2 → (k61 x1 I)) ∧ (¬ (I 316 (nI 0).toNatClampNeg) ≤ x2 → (vp_in (nI 6) 1372 ∧ (wp_X8_has (I 316 (nI 6).toNatClampNeg) x2 I (fun r5 I4 => ((r5 = 0 → (wp_X8_most_55 Q (fun x1 x2 I => wp_X8_most_19 Q k53 k61 n x1 x2 I) x1 x2 I4)) ∧ (¬ r5 = 0 → (wp_X8_mayPay (nI 0) x2 x1 I4 (fun r8 I7 => ((r8 = 0 → (wp_X8_most_55 Q (fun x1 x2 I => wp_X8_most_19 Q k53 k61 n x1 x2 I) x1 x2 I7)) ∧ (¬ r8 = 0 → (k53 x1 I7)))))))))))))
set_option maxHeartbeats 4000000 in
set_option maxRecDepth 100000 in
theorem w_X8_most_19 {E : EE} {p : Program} {l : Launch} {e : Env} {s : State} {m : MethodId} {args : Array Value} {below : List Frame} {meth : Method} {c : Code} {Q : Int32 → II → Prop} {k53 : Int32 → II → Prop} {k61 : Int32 → II → Prop} (X : CX E p s m args meth c cX8_most 3 (some .int) RX8) (K53 : ∀ (x1 : Int32) (I : II) (H : Heap) (locs : List Loc) (ls : Array Slot), k53 x1 I → PP E s H locs I → lv_has ls 3 [(1, .int x1)] → W p l e rmX8_most s m args below meth c H locs 0 0 (MQ below (va_Qi Q (BU E) E.2.2.2.1) args s 0 0 E.2.2.2.1) (F0 m 53 ls [])) (K61 : ∀ (x1 : Int32) (I : II) (H : Heap) (locs : List Loc) (ls : Array Slot), k61 x1 I → PP E s H locs I → lv_has ls 3 [(0, .ref (E.2.1 315)), (1, .int x1)] → W p l e rmX8_most s m args below meth c H locs 0 0 (MQ below (va_Qi Q (BU E) E.2.2.2.1) args s 0 0 E.2.2.2.1) (F0 m 61 ls [])) : ∀ (n : Nat) (x1 : Int32) (x2 : Int32) (I : II) (H : Heap) (locs : List Loc) (ls : Array Slot), wp_X8_most_19 Q k53 k61 n x1 x2 I → PP E s H locs I → lv_has ls 3 [(0, .ref (E.2.1 315)), (1, .int x1), (2, .int x2)] → W p l e rmX8_most s m args below meth c H locs 0 0 (MQ below (va_Qi Q (BU E) E.2.2.2.1) args s 0 0 E.2.2.2.1) (F0 m 19 ls []) := by
  obtain ⟨⟨hx, hb, hml, hown, hts⟩, hr, hlk, hK, hST, hN⟩ := id X
  intro n
  induction n with
  | zero =>
    intro x1 x2 I H locs ls h hp hl
    exact False.elim h
  | succ n ih =>
    intro x1 x2 I H locs ls h hp hl
    rw [wp_X8_most_19.eq_2] at h
    refine lv_iload_n hx hb dX8_most_19 rfl (lv_at hl 2 rfl) ?_
    refine lv_aload_n hx hb dX8_most_20 rfl (lv_at hl 0 rfl) ?_
    refine f_X8_7 X hp dX8_most_21 ?_
    refine lv_iconst (v := (nI 0)) hx hb dX8_most_24 (by decide) ?_
    have hv1 := h.1
    have h := h.2
    refine al_i X hp ar_s316 hv1 dX8_most_25 ?_
    refine lv_icmp_ge (tgt := 61) hx hb dX8_most_26 (by decide) (fun c2 => ?_) (fun c2 => ?_)
    · have h := h.1 c2
      exact K61 _ _ _ _ _ h hp (lv_sub hl [0, 1] rfl)
    · have h := h.2 c2
      refine lv_aload_n hx hb dX8_most_29 rfl (lv_at hl 0 rfl) ?_
      refine f_X8_7 X hp dX8_most_30 ?_
      refine lv_bipush (v := (nI 6)) hx hb dX8_most_33 (by decide) ?_
      have hv3 := h.1
      have h := h.2
      refine al_i X hp ar_s316 hv3 dX8_most_35 ?_
      refine lv_iload_n hx hb dX8_most_36 rfl (lv_at hl 2 rfl) ?_
      refine ki (kS (As := [.int (I 316 (nI 6).toNatClampNeg), .int x2]) (rest := []) X hp (C_X8_has  h) tw_ml_X8_150 sf_X8_has ⟨rfl, rfl, Nat.le_of_ble_eq_true rfl, Nat.le_of_ble_eq_true rfl⟩ rfl hl.1 rfl (Nat.le_of_ble_eq_true rfl) dX8_most_37) hp (fun r5 I4 H locs h hp => ?_)
      refine lv_if_eq (tgt := 55) hx hb dX8_most_40 (by decide) (fun c6 => ?_) (fun c6 => ?_)
      · have h := h.1 c6
        exact w_X8_most_55 X ih _ _ _ _ _ _ h hp (lv_sub hl [0, 1, 2] rfl)
      · have h := h.2 c6
        refine lv_aload_n hx hb dX8_most_43 rfl (lv_at hl 0 rfl) ?_
        refine lv_iconst (v := (nI 0)) hx hb dX8_most_44 (by decide) ?_
        refine lv_iload_n hx hb dX8_most_45 rfl (lv_at hl 2 rfl) ?_
        refine lv_iload_n hx hb dX8_most_46 rfl (lv_at hl 1 rfl) ?_
        refine ki (kV (As := [.int (nI 0), .int x2, .int x1]) (rest := []) X hp (C_X8_mayPay  h) tw_ml_X8_153 vf_X8_mayPay ⟨rfl, rfl, Nat.le_of_ble_eq_true rfl, Nat.le_of_ble_eq_true rfl⟩ (pr_rcv X hp (k := 315) (by decide) (ob_315 _) (q := (RX8, TX8, 18)) rfl) rfl hl.1 rfl (Nat.le_of_ble_eq_true rfl) dX8_most_47) hp (fun r8 I7 H locs h hp => ?_)
        refine lv_if_eq (tgt := 55) hx hb dX8_most_50 (by decide) (fun c9 => ?_) (fun c9 => ?_)
        · have h := h.1 c9
          exact w_X8_most_55 X ih _ _ _ _ _ _ h hp (lv_sub hl [0, 1, 2] rfl)
        · have h := h.2 c9
          exact K53 _ _ _ _ _ h hp (lv_sub hl [1] rfl)
def wp_X8_most_13 (Q : Int32 → II → Prop) (k53 : Int32 → II → Prop) (k67 : II → Prop) : Nat → Int32 → II → Prop
  | 0, _, _ => False
  | n + 1, x1, I => ((x1 ≤ 0 → (k67 I)) ∧ (¬ x1 ≤ 0 → (∃ n52, wp_X8_most_19 Q k53 (fun x1 I => (wp_X8_most_13 Q k53 k67 n (x1 + (-nI 1)) I)) n52 x1 (nI 0) I)))
set_option maxHeartbeats 4000000 in
set_option maxRecDepth 100000 in
theorem w_X8_most_13 {E : EE} {p : Program} {l : Launch} {e : Env} {s : State} {m : MethodId} {args : Array Value} {below : List Frame} {meth : Method} {c : Code} {Q : Int32 → II → Prop} {k53 : Int32 → II → Prop} {k67 : II → Prop} (X : CX E p s m args meth c cX8_most 3 (some .int) RX8) (K53 : ∀ (x1 : Int32) (I : II) (H : Heap) (locs : List Loc) (ls : Array Slot), k53 x1 I → PP E s H locs I → lv_has ls 3 [(1, .int x1)] → W p l e rmX8_most s m args below meth c H locs 0 0 (MQ below (va_Qi Q (BU E) E.2.2.2.1) args s 0 0 E.2.2.2.1) (F0 m 53 ls [])) (K67 : ∀ (I : II) (H : Heap) (locs : List Loc) (ls : Array Slot), k67 I → PP E s H locs I → lv_has ls 3 [] → W p l e rmX8_most s m args below meth c H locs 0 0 (MQ below (va_Qi Q (BU E) E.2.2.2.1) args s 0 0 E.2.2.2.1) (F0 m 67 ls [])) : ∀ (n : Nat) (x1 : Int32) (I : II) (H : Heap) (locs : List Loc) (ls : Array Slot), wp_X8_most_13 Q k53 k67 n x1 I → PP E s H locs I → lv_has ls 3 [(0, .ref (E.2.1 315)), (1, .int x1)] → W p l e rmX8_most s m args below meth c H locs 0 0 (MQ below (va_Qi Q (BU E) E.2.2.2.1) args s 0 0 E.2.2.2.1) (F0 m 13 ls []) := by
  obtain ⟨⟨hx, hb, hml, hown, hts⟩, hr, hlk, hK, hST, hN⟩ := id X
  intro n
  induction n with
  | zero =>
    intro x1 I H locs ls h hp hl
    exact False.elim h
  | succ n ih =>
    intro x1 I H locs ls h hp hl
    rw [wp_X8_most_13.eq_2] at h
    refine lv_iload_n hx hb dX8_most_13 rfl (lv_at hl 1 rfl) ?_
    refine lv_if_le (tgt := 67) hx hb dX8_most_14 (by decide) (fun c1 => ?_) (fun c1 => ?_)
    · have h := h.1 c1
      exact K67 _ _ _ _ h hp (lv_sub hl [] rfl)
    · have h := h.2 c1
      refine lv_iconst (v := (nI 0)) hx hb dX8_most_17 (by decide) ?_
      refine lv_istore_n (lv' := [(2, .int (nI 0)), (0, .ref (E.2.1 315)), (1, .int x1)]) hx hb dX8_most_18 rfl hl (by decide) rfl (fun ls hl => ?_)
      obtain ⟨n52, h⟩ := h
      refine w_X8_most_19 X K53 ?_ n52 _ _ _ _ _ _ h hp (lv_sub hl [1, 2, 0] rfl)
      · intro x1 I H locs ls h hp hl
        refine lv_iinc (v := (x1 + (-nI 1))) (lv' := [(1, .int (x1 + (-nI 1))), (0, .ref (E.2.1 315))]) hx hb dX8_most_61 hl (k := 1) rfl rfl (by decide) rfl (fun ls hl => ?_)
        refine lv_goto (tgt := 13) hx hb dX8_most_64 (by decide) ?_
        exact ih _ _ _ _ _ h hp (lv_sub hl [1, 0] rfl)
def wp_X8_most (I : II) (Q : Int32 → II → Prop) : Prop := ((¬ (I 315 1) = 0 → (∃ n102, wp_X8_most_13 Q (fun x1 I => (Q x1 I)) (fun I => (Q (-nI 1000000) I)) n102 (nI 99) I)) ∧ ((I 315 1) = 0 → (Q (-nI 1000002) I)))
set_option maxHeartbeats 4000000 in
set_option maxRecDepth 100000 in
theorem w_X8_most_0 {E : EE} {p : Program} {l : Launch} {e : Env} {s : State} {m : MethodId} {args : Array Value} {below : List Frame} {meth : Method} {c : Code} {Q : Int32 → II → Prop} (X : CX E p s m args meth c cX8_most 3 (some .int) RX8) : ∀ (I : II) (H : Heap) (locs : List Loc) (ls : Array Slot), wp_X8_most I Q → PP E s H locs I → lv_has ls 3 [(0, .ref (E.2.1 315))] → W p l e rmX8_most s m args below meth c H locs 0 0 (MQ below (va_Qi Q (BU E) E.2.2.2.1) args s 0 0 E.2.2.2.1) (F0 m 0 ls []) := by
  obtain ⟨⟨hx, hb, hml, hown, hts⟩, hr, hlk, hK, hST, hN⟩ := id X
  intro I H locs ls h hp hl
  unfold wp_X8_most at h
  refine lv_aload_n hx hb dX8_most_0 rfl (lv_at hl 0 rfl) ?_
  refine f_X8_137 X hp dX8_most_1 ?_
  refine lv_if_ne (tgt := 10) hx hb dX8_most_4 (by decide) (fun c1 => ?_) (fun c1 => ?_)
  · have h := h.1 c1
    refine lv_bipush (v := (nI 99)) hx hb dX8_most_10 (by decide) ?_
    refine lv_istore_n (lv' := [(1, .int (nI 99)), (0, .ref (E.2.1 315))]) hx hb dX8_most_12 rfl hl (by decide) rfl (fun ls hl => ?_)
    obtain ⟨n102, h⟩ := h
    refine w_X8_most_13 X ?_ ?_ n102 _ _ _ _ _ h hp (lv_sub hl [1, 0] rfl)
    · intro x1 I H locs ls h hp hl
      refine lv_iload_n hx hb dX8_most_53 rfl (lv_at hl 0 rfl) ?_
      exact rt_i X hp h dX8_most_54
    · intro I H locs ls h hp hl
      refine lv_ldc (v := (-nI 1000000)) hx hb hown (hts _ tw_k_X8_149) dX8_most_67 ?_
      exact rt_i X hp h dX8_most_69
  · have h := h.2 c1
    refine lv_ldc (v := (-nI 1000002)) hx hb hown (hts _ tw_k_X8_144) dX8_most_7 ?_
    exact rt_i X hp h dX8_most_9
set_option maxRecDepth 100000 in
theorem C_X8_most {E : EE} {l : Launch} {I : II} {Q : Int32 → II → Prop} (h : wp_X8_most I Q) : Met l yX8_most (Cond.code yX8_most cX8_most 3 (some .int) :: lwT) rmX8_most (va_Pc [.ref (E.2.1 315)] (PU E I)) (va_Qi Q (BU E) E.2.2.2.1) 0 0 E.2.2.2.1 :=
  ofWalk [.ref (E.2.1 315)] (by decide) tw_c_X8_most (Nat.le_of_ble_eq_true rfl) (fun p e s m below meth c ls X hp hl => w_X8_most_0 X _ _ _ _ h hp hl)
abbrev rmX8_twins : Room := { frames := 1, cells := 0, slots := 0, locals := 25 }
theorem vf_X8_twins : VF yX8_twins RX8 cX8_twins 7 (some .int) 1 := ⟨tw_in_X8, tw_im_X8_twins, tw_se_X8_twins, tw_c_X8_twins, by decide, by decide, by decide +kernel⟩
def wp_X8_twins_120 (Q : Int32 → II → Prop) (k53 : Int32 → Int32 → Int32 → Int32 → Int32 → II → Prop) (x1 : Int32) (x2 : Int32) (x4 : Int32) (x5 : Int32) (v0 : Int32) (I : II) : Prop := (k53 x1 x2 v0 x4 (x5 + (-nI 1)) I)
set_option maxHeartbeats 4000000 in
set_option maxRecDepth 100000 in
theorem w_X8_twins_120 {E : EE} {p : Program} {l : Launch} {e : Env} {s : State} {m : MethodId} {args : Array Value} {below : List Frame} {meth : Method} {c : Code} {Q : Int32 → II → Prop} {k53 : Int32 → Int32 → Int32 → Int32 → Int32 → II → Prop} (X : CX E p s m args meth c cX8_twins 7 (some .int) RX8) (K53 : ∀ (x1 : Int32) (x2 : Int32) (x3 : Int32) (x4 : Int32) (x5 : Int32) (I : II) (H : Heap) (locs : List Loc) (ls : Array Slot), k53 x1 x2 x3 x4 x5 I → PP E s H locs I → lv_has ls 7 [(0, .ref (E.2.1 315)), (1, .int x1), (2, .int x2), (3, .int x3), (4, .int x4), (5, .int x5)] → W p l e rmX8_twins s m args below meth c H locs 0 0 (MQ below (va_Qi Q (BU E) E.2.2.2.1) args s 0 0 E.2.2.2.1) (F0 m 53 ls [])) : ∀ (x1 : Int32) (x2 : Int32) (x4 : Int32) (x5 : Int32) (v0 : Int32) (I : II) (H : Heap) (locs : List Loc) (ls : Array Slot), wp_X8_twins_120 Q k53 x1 x2 x4 x5 v0 I → PP E s H locs I → lv_has ls 7 [(0, .ref (E.2.1 315)), (1, .int x1), (2, .int x2), (4, .int x4), (5, .int x5)] → W p l e rmX8_twins s m args below meth c H locs 0 0 (MQ below (va_Qi Q (BU E) E.2.2.2.1) args s 0 0 E.2.2.2.1) (F0 m 120 ls [.int v0]) := by
  obtain ⟨⟨hx, hb, hml, hown, hts⟩, hr, hlk, hK, hST, hN⟩ := id X
  intro x1 x2 x4 x5 v0 I H locs ls h hp hl
  unfold wp_X8_twins_120 at h
  refine lv_istore_n (lv' := [(3, .int v0), (0, .ref (E.2.1 315)), (1, .int x1), (2, .int x2), (4, .int x4), (5, .int x5)]) hx hb dX8_twins_120 rfl hl (by decide) rfl (fun ls hl => ?_)
  refine lv_iinc (v := (x5 + (-nI 1))) (lv' := [(5, .int (x5 + (-nI 1))), (3, .int v0), (0, .ref (E.2.1 315)), (1, .int x1), (2, .int x2), (4, .int x4)]) hx hb dX8_twins_121 hl (k := 5) rfl rfl (by decide) rfl (fun ls hl => ?_)
  refine lv_goto (tgt := 53) hx hb dX8_twins_124 (by decide) ?_
  exact K53 _ _ _ _ _ _ _ _ _ h hp (lv_sub hl [2, 3, 4, 1, 5, 0] rfl)
def wp_X8_twins_101 (Q : Int32 → II → Prop) (k53 : Int32 → Int32 → Int32 → Int32 → Int32 → II → Prop) (x1 : Int32) (x3 : Int32) (x4 : Int32) (x5 : Int32) (x6 : Int32) (v0 : Int32) (v1 : Int32) (I : II) : Prop := ((x6 = 0 → (wp_X8_twins_120 Q k53 x1 (v1 + v0) x4 x5 x3 I)) ∧ (¬ x6 = 0 → (wp_X8_twins_120 Q k53 x1 (v1 + v0) x4 x5 (((nI 10) * x4) + x5) I)))
set_option maxHeartbeats 4000000 in
set_option maxRecDepth 100000 in
theorem w_X8_twins_101 {E : EE} {p : Program} {l : Launch} {e : Env} {s : State} {m : MethodId} {args : Array Value} {below : List Frame} {meth : Method} {c : Code} {Q : Int32 → II → Prop} {k53 : Int32 → Int32 → Int32 → Int32 → Int32 → II → Prop} (X : CX E p s m args meth c cX8_twins 7 (some .int) RX8) (K53 : ∀ (x1 : Int32) (x2 : Int32) (x3 : Int32) (x4 : Int32) (x5 : Int32) (I : II) (H : Heap) (locs : List Loc) (ls : Array Slot), k53 x1 x2 x3 x4 x5 I → PP E s H locs I → lv_has ls 7 [(0, .ref (E.2.1 315)), (1, .int x1), (2, .int x2), (3, .int x3), (4, .int x4), (5, .int x5)] → W p l e rmX8_twins s m args below meth c H locs 0 0 (MQ below (va_Qi Q (BU E) E.2.2.2.1) args s 0 0 E.2.2.2.1) (F0 m 53 ls [])) : ∀ (x1 : Int32) (x3 : Int32) (x4 : Int32) (x5 : Int32) (x6 : Int32) (v0 : Int32) (v1 : Int32) (I : II) (H : Heap) (locs : List Loc) (ls : Array Slot), wp_X8_twins_101 Q k53 x1 x3 x4 x5 x6 v0 v1 I → PP E s H locs I → lv_has ls 7 [(0, .ref (E.2.1 315)), (1, .int x1), (3, .int x3), (4, .int x4), (5, .int x5), (6, .int x6)] → W p l e rmX8_twins s m args below meth c H locs 0 0 (MQ below (va_Qi Q (BU E) E.2.2.2.1) args s 0 0 E.2.2.2.1) (F0 m 101 ls [.int v0, .int v1]) := by
  obtain ⟨⟨hx, hb, hml, hown, hts⟩, hr, hlk, hK, hST, hN⟩ := id X
  intro x1 x3 x4 x5 x6 v0 v1 I H locs ls h hp hl
  unfold wp_X8_twins_101 at h
  refine lv_iadd hx hb dX8_twins_101 ?_
  refine lv_istore_n (lv' := [(2, .int (v1 + v0)), (0, .ref (E.2.1 315)), (1, .int x1), (3, .int x3), (4, .int x4), (5, .int x5), (6, .int x6)]) hx hb dX8_twins_102 rfl hl (by decide) rfl (fun ls hl => ?_)
  refine lv_iload hx hb dX8_twins_103 (lv_at hl 6 rfl) ?_
  refine lv_if_eq (tgt := 119) hx hb dX8_twins_105 (by decide) (fun c1 => ?_) (fun c1 => ?_)
  · have h := h.1 c1
    refine lv_iload_n hx hb dX8_twins_119 rfl (lv_at hl 3 rfl) ?_
    exact w_X8_twins_120 X K53 _ _ _ _ _ _ _ _ _ h hp (lv_sub hl [1, 2, 0, 4, 5] rfl)
  · have h := h.2 c1
    refine lv_bipush (v := (nI 10)) hx hb dX8_twins_108 (by decide) ?_
    refine lv_iload hx hb dX8_twins_110 (lv_at hl 4 rfl) ?_
    refine lv_imul hx hb dX8_twins_112 ?_
    refine lv_iload hx hb dX8_twins_113 (lv_at hl 5 rfl) ?_
    refine lv_iadd hx hb dX8_twins_115 ?_
    refine lv_goto (tgt := 120) hx hb dX8_twins_116 (by decide) ?_
    exact w_X8_twins_120 X K53 _ _ _ _ _ _ _ _ _ h hp (lv_sub hl [1, 2, 0, 4, 5] rfl)
def wp_X8_twins_88 (Q : Int32 → II → Prop) (k53 : Int32 → Int32 → Int32 → Int32 → Int32 → II → Prop) (x1 : Int32) (x2 : Int32) (x3 : Int32) (x4 : Int32) (x5 : Int32) (v0 : Int32) (I : II) : Prop := ((v0 = 0 → (wp_X8_twins_101 Q k53 x1 x3 x4 x5 v0 (nI 0) x2 I)) ∧ (¬ v0 = 0 → (wp_X8_twins_101 Q k53 x1 x3 x4 x5 v0 (nI 1) x2 I)))
set_option maxHeartbeats 4000000 in
set_option maxRecDepth 100000 in
theorem w_X8_twins_88 {E : EE} {p : Program} {l : Launch} {e : Env} {s : State} {m : MethodId} {args : Array Value} {below : List Frame} {meth : Method} {c : Code} {Q : Int32 → II → Prop} {k53 : Int32 → Int32 → Int32 → Int32 → Int32 → II → Prop} (X : CX E p s m args meth c cX8_twins 7 (some .int) RX8) (K53 : ∀ (x1 : Int32) (x2 : Int32) (x3 : Int32) (x4 : Int32) (x5 : Int32) (I : II) (H : Heap) (locs : List Loc) (ls : Array Slot), k53 x1 x2 x3 x4 x5 I → PP E s H locs I → lv_has ls 7 [(0, .ref (E.2.1 315)), (1, .int x1), (2, .int x2), (3, .int x3), (4, .int x4), (5, .int x5)] → W p l e rmX8_twins s m args below meth c H locs 0 0 (MQ below (va_Qi Q (BU E) E.2.2.2.1) args s 0 0 E.2.2.2.1) (F0 m 53 ls [])) : ∀ (x1 : Int32) (x2 : Int32) (x3 : Int32) (x4 : Int32) (x5 : Int32) (v0 : Int32) (I : II) (H : Heap) (locs : List Loc) (ls : Array Slot), wp_X8_twins_88 Q k53 x1 x2 x3 x4 x5 v0 I → PP E s H locs I → lv_has ls 7 [(0, .ref (E.2.1 315)), (1, .int x1), (2, .int x2), (3, .int x3), (4, .int x4), (5, .int x5)] → W p l e rmX8_twins s m args below meth c H locs 0 0 (MQ below (va_Qi Q (BU E) E.2.2.2.1) args s 0 0 E.2.2.2.1) (F0 m 88 ls [.int v0]) := by
  obtain ⟨⟨hx, hb, hml, hown, hts⟩, hr, hlk, hK, hST, hN⟩ := id X
  intro x1 x2 x3 x4 x5 v0 I H locs ls h hp hl
  unfold wp_X8_twins_88 at h
  refine lv_istore (lv' := [(6, .int v0), (0, .ref (E.2.1 315)), (1, .int x1), (2, .int x2), (3, .int x3), (4, .int x4), (5, .int x5)]) hx hb dX8_twins_88 hl (by decide) rfl (fun ls hl => ?_)
  refine lv_iload_n hx hb dX8_twins_90 rfl (lv_at hl 3 rfl) ?_
  refine lv_iload hx hb dX8_twins_91 (lv_at hl 0 rfl) ?_
  refine lv_if_eq (tgt := 100) hx hb dX8_twins_93 (by decide) (fun c1 => ?_) (fun c1 => ?_)
  · have h := h.1 c1
    refine lv_iconst (v := (nI 0)) hx hb dX8_twins_100 (by decide) ?_
    exact w_X8_twins_101 X K53 _ _ _ _ _ _ _ _ _ _ _ h hp (lv_sub hl [1, 2, 4, 5, 6, 0] rfl)
  · have h := h.2 c1
    refine lv_iconst (v := (nI 1)) hx hb dX8_twins_96 (by decide) ?_
    refine lv_goto (tgt := 101) hx hb dX8_twins_97 (by decide) ?_
    exact w_X8_twins_101 X K53 _ _ _ _ _ _ _ _ _ _ _ h hp (lv_sub hl [1, 2, 4, 5, 6, 0] rfl)
def wp_X8_twins_53 (Q : Int32 → II → Prop) (k127 : Int32 → Int32 → Int32 → Int32 → II → Prop) : Nat → Int32 → Int32 → Int32 → Int32 → Int32 → II → Prop
  | 0, _, _, _, _, _, _ => False
  | n + 1, x1, x2, x3, x4, x5, I => ((x5 ≤ x4 → (k127 x1 x2 x3 x4 I)) ∧ (¬ x5 ≤ x4 → (vp_in ((nI 41) + x4) 1372 ∧ (vp_in ((nI 41) + x5) 1372 ∧ ((¬ (I 316 ((nI 41) + x4).toNatClampNeg) = (I 316 ((nI 41) + x5).toNatClampNeg) → (wp_X8_twins_88 Q (fun x1 x2 x3 x4 x5 I => wp_X8_twins_53 Q k127 n x1 x2 x3 x4 x5 I) x1 x2 x3 x4 x5 (nI 0) I)) ∧ ((I 316 ((nI 41) + x4).toNatClampNeg) = (I 316 ((nI 41) + x5).toNatClampNeg) → (wp_X8_twins_88 Q (fun x1 x2 x3 x4 x5 I => wp_X8_twins_53 Q k127 n x1 x2 x3 x4 x5 I) x1 x2 x3 x4 x5 (nI 1) I)))))))
set_option maxHeartbeats 4000000 in
set_option maxRecDepth 100000 in
theorem w_X8_twins_53 {E : EE} {p : Program} {l : Launch} {e : Env} {s : State} {m : MethodId} {args : Array Value} {below : List Frame} {meth : Method} {c : Code} {Q : Int32 → II → Prop} {k127 : Int32 → Int32 → Int32 → Int32 → II → Prop} (X : CX E p s m args meth c cX8_twins 7 (some .int) RX8) (K127 : ∀ (x1 : Int32) (x2 : Int32) (x3 : Int32) (x4 : Int32) (I : II) (H : Heap) (locs : List Loc) (ls : Array Slot), k127 x1 x2 x3 x4 I → PP E s H locs I → lv_has ls 7 [(0, .ref (E.2.1 315)), (1, .int x1), (2, .int x2), (3, .int x3), (4, .int x4)] → W p l e rmX8_twins s m args below meth c H locs 0 0 (MQ below (va_Qi Q (BU E) E.2.2.2.1) args s 0 0 E.2.2.2.1) (F0 m 127 ls [])) : ∀ (n : Nat) (x1 : Int32) (x2 : Int32) (x3 : Int32) (x4 : Int32) (x5 : Int32) (I : II) (H : Heap) (locs : List Loc) (ls : Array Slot), wp_X8_twins_53 Q k127 n x1 x2 x3 x4 x5 I → PP E s H locs I → lv_has ls 7 [(0, .ref (E.2.1 315)), (1, .int x1), (2, .int x2), (3, .int x3), (4, .int x4), (5, .int x5)] → W p l e rmX8_twins s m args below meth c H locs 0 0 (MQ below (va_Qi Q (BU E) E.2.2.2.1) args s 0 0 E.2.2.2.1) (F0 m 53 ls []) := by
  obtain ⟨⟨hx, hb, hml, hown, hts⟩, hr, hlk, hK, hST, hN⟩ := id X
  intro n
  induction n with
  | zero =>
    intro x1 x2 x3 x4 x5 I H locs ls h hp hl
    exact False.elim h
  | succ n ih =>
    intro x1 x2 x3 x4 x5 I H locs ls h hp hl
    rw [wp_X8_twins_53.eq_2] at h
    refine lv_iload hx hb dX8_twins_53 (lv_at hl 5 rfl) ?_
    refine lv_iload hx hb dX8_twins_55 (lv_at hl 4 rfl) ?_
    refine lv_icmp_le (tgt := 127) hx hb dX8_twins_57 (by decide) (fun c1 => ?_) (fun c1 => ?_)
    · have h := h.1 c1
      exact K127 _ _ _ _ _ _ _ _ h hp (lv_sub hl [0, 1, 2, 3, 4] rfl)
    · have h := h.2 c1
      refine lv_aload_n hx hb dX8_twins_60 rfl (lv_at hl 0 rfl) ?_
      refine f_X8_7 X hp dX8_twins_61 ?_
      refine lv_bipush (v := (nI 41)) hx hb dX8_twins_64 (by decide) ?_
      refine lv_iload hx hb dX8_twins_66 (lv_at hl 4 rfl) ?_
      refine lv_iadd hx hb dX8_twins_68 ?_
      have hv2 := h.1
      have h := h.2
      refine al_i X hp ar_s316 hv2 dX8_twins_69 ?_
      refine lv_aload_n hx hb dX8_twins_70 rfl (lv_at hl 0 rfl) ?_
      refine f_X8_7 X hp dX8_twins_71 ?_
      refine lv_bipush (v := (nI 41)) hx hb dX8_twins_74 (by decide) ?_
      refine lv_iload hx hb dX8_twins_76 (lv_at hl 5 rfl) ?_
      refine lv_iadd hx hb dX8_twins_78 ?_
      have hv3 := h.1
      have h := h.2
      refine al_i X hp ar_s316 hv3 dX8_twins_79 ?_
      refine lv_icmp_ne (tgt := 87) hx hb dX8_twins_80 (by decide) (fun c4 => ?_) (fun c4 => ?_)
      · have h := h.1 c4
        refine lv_iconst (v := (nI 0)) hx hb dX8_twins_87 (by decide) ?_
        exact w_X8_twins_88 X ih _ _ _ _ _ _ _ _ _ _ h hp (lv_sub hl [0, 1, 2, 3, 4, 5] rfl)
      · have h := h.2 c4
        refine lv_iconst (v := (nI 1)) hx hb dX8_twins_83 (by decide) ?_
        refine lv_goto (tgt := 88) hx hb dX8_twins_84 (by decide) ?_
        exact w_X8_twins_88 X ih _ _ _ _ _ _ _ _ _ _ h hp (lv_sub hl [0, 1, 2, 3, 4, 5] rfl)
def wp_X8_twins_38 (Q : Int32 → II → Prop) (k133 : Int32 → Int32 → Int32 → II → Prop) : Nat → Int32 → Int32 → Int32 → Int32 → II → Prop
  | 0, _, _, _, _, _ => False
  | n + 1, x1, x2, x3, x4, I => ((x4 < 0 → (k133 x1 x2 x3 I)) ∧ (¬ x4 < 0 → (vp_in (nI 0) 1372 ∧ (∃ n53, wp_X8_twins_53 Q (fun x1 x2 x3 x4 I => (wp_X8_twins_38 Q k133 n x1 x2 x3 (x4 + (-nI 1)) I)) n53 x1 x2 x3 x4 ((I 316 (nI 0).toNatClampNeg) - (nI 1)) I))))
set_option maxHeartbeats 4000000 in
set_option maxRecDepth 100000 in
theorem w_X8_twins_38 {E : EE} {p : Program} {l : Launch} {e : Env} {s : State} {m : MethodId} {args : Array Value} {below : List Frame} {meth : Method} {c : Code} {Q : Int32 → II → Prop} {k133 : Int32 → Int32 → Int32 → II → Prop} (X : CX E p s m args meth c cX8_twins 7 (some .int) RX8) (K133 : ∀ (x1 : Int32) (x2 : Int32) (x3 : Int32) (I : II) (H : Heap) (locs : List Loc) (ls : Array Slot), k133 x1 x2 x3 I → PP E s H locs I → lv_has ls 7 [(1, .int x1), (2, .int x2), (3, .int x3)] → W p l e rmX8_twins s m args below meth c H locs 0 0 (MQ below (va_Qi Q (BU E) E.2.2.2.1) args s 0 0 E.2.2.2.1) (F0 m 133 ls [])) : ∀ (n : Nat) (x1 : Int32) (x2 : Int32) (x3 : Int32) (x4 : Int32) (I : II) (H : Heap) (locs : List Loc) (ls : Array Slot), wp_X8_twins_38 Q k133 n x1 x2 x3 x4 I → PP E s H locs I → lv_has ls 7 [(0, .ref (E.2.1 315)), (1, .int x1), (2, .int x2), (3, .int x3), (4, .int x4)] → W p l e rmX8_twins s m args below meth c H locs 0 0 (MQ below (va_Qi Q (BU E) E.2.2.2.1) args s 0 0 E.2.2.2.1) (F0 m 38 ls []) := by
  obtain ⟨⟨hx, hb, hml, hown, hts⟩, hr, hlk, hK, hST, hN⟩ := id X
  intro n
  induction n with
  | zero =>
    intro x1 x2 x3 x4 I H locs ls h hp hl
    exact False.elim h
  | succ n ih =>
    intro x1 x2 x3 x4 I H locs ls h hp hl
    rw [wp_X8_twins_38.eq_2] at h
    refine lv_iload hx hb dX8_twins_38 (lv_at hl 4 rfl) ?_
    refine lv_if_lt (tgt := 133) hx hb dX8_twins_40 (by decide) (fun c1 => ?_) (fun c1 => ?_)
    · have h := h.1 c1
      exact K133 _ _ _ _ _ _ _ h hp (lv_sub hl [1, 2, 3] rfl)
    · have h := h.2 c1
      refine lv_aload_n hx hb dX8_twins_43 rfl (lv_at hl 0 rfl) ?_
      refine f_X8_7 X hp dX8_twins_44 ?_
      refine lv_iconst (v := (nI 0)) hx hb dX8_twins_47 (by decide) ?_
      have hv2 := h.1
      have h := h.2
      refine al_i X hp ar_s316 hv2 dX8_twins_48 ?_
      refine lv_iconst (v := (nI 1)) hx hb dX8_twins_49 (by decide) ?_
      refine lv_isub hx hb dX8_twins_50 ?_
      refine lv_istore (lv' := [(5, .int ((I 316 (nI 0).toNatClampNeg) - (nI 1))), (0, .ref (E.2.1 315)), (1, .int x1), (2, .int x2), (3, .int x3), (4, .int x4)]) hx hb dX8_twins_51 hl (by decide) rfl (fun ls hl => ?_)
      obtain ⟨n53, h⟩ := h
      refine w_X8_twins_53 X ?_ n53 _ _ _ _ _ _ _ _ _ h hp (lv_sub hl [1, 2, 3, 4, 5, 0] rfl)
      · intro x1 x2 x3 x4 I H locs ls h hp hl
        refine lv_iinc (v := (x4 + (-nI 1))) (lv' := [(4, .int (x4 + (-nI 1))), (0, .ref (E.2.1 315)), (1, .int x1), (2, .int x2), (3, .int x3)]) hx hb dX8_twins_127 hl (k := 4) rfl rfl (by decide) rfl (fun ls hl => ?_)
        refine lv_goto (tgt := 38) hx hb dX8_twins_130 (by decide) ?_
        exact ih _ _ _ _ _ _ _ _ h hp (lv_sub hl [1, 2, 3, 4, 0] rfl)
def wp_X8_twins (x1 : Int32) (I : II) (Q : Int32 → II → Prop) : Prop := ((¬ (I 315 1) = 0 → (wp_X8_in x1.toInt64 (lN 0) (lN 1) I (fun r3 I2 => ((¬ r3 = 0 → (vp_in (nI 0) 1372 ∧ (∃ n57, wp_X8_twins_38 Q (fun x1 x2 x3 I => ((¬ x1 = 0 → (Q x3 I)) ∧ (x1 = 0 → (Q x2 I)))) n57 x1 (nI 0) (-nI 1000000) ((I2 316 (nI 0).toNatClampNeg) - (nI 1)) I2))) ∧ (r3 = 0 → (Q (-nI 1000001) I2)))))) ∧ ((I 315 1) = 0 → (Q (-nI 1000002) I)))
set_option maxHeartbeats 4000000 in
set_option maxRecDepth 100000 in
theorem w_X8_twins_0 {E : EE} {p : Program} {l : Launch} {e : Env} {s : State} {m : MethodId} {args : Array Value} {below : List Frame} {meth : Method} {c : Code} {Q : Int32 → II → Prop} (X : CX E p s m args meth c cX8_twins 7 (some .int) RX8) : ∀ (x1 : Int32) (I : II) (H : Heap) (locs : List Loc) (ls : Array Slot), wp_X8_twins x1 I Q → PP E s H locs I → lv_has ls 7 [(0, .ref (E.2.1 315)), (1, .int x1)] → W p l e rmX8_twins s m args below meth c H locs 0 0 (MQ below (va_Qi Q (BU E) E.2.2.2.1) args s 0 0 E.2.2.2.1) (F0 m 0 ls []) := by
  obtain ⟨⟨hx, hb, hml, hown, hts⟩, hr, hlk, hK, hST, hN⟩ := id X
  intro x1 I H locs ls h hp hl
  unfold wp_X8_twins at h
  refine lv_aload_n hx hb dX8_twins_0 rfl (lv_at hl 0 rfl) ?_
  refine f_X8_137 X hp dX8_twins_1 ?_
  refine lv_if_ne (tgt := 10) hx hb dX8_twins_4 (by decide) (fun c1 => ?_) (fun c1 => ?_)
  · have h := h.1 c1
    refine lv_iload_n hx hb dX8_twins_10 rfl (lv_at hl 1 rfl) ?_
    refine lv_i2l (v := x1.toInt64) hx hb dX8_twins_11 rfl ?_
    refine lv_lconst (v := (lN 0)) hx hb dX8_twins_12 (by decide) ?_
    refine lv_lconst (v := (lN 1)) hx hb dX8_twins_13 (by decide) ?_
    refine ki (kS (As := [.long x1.toInt64, .long (lN 0), .long (lN 1)]) (rest := []) X hp (C_X8_in  h) tw_ml_X8_45 sf_X8_in ⟨rfl, rfl, Nat.le_of_ble_eq_true rfl, Nat.le_of_ble_eq_true rfl⟩ rfl hl.1 rfl (Nat.le_of_ble_eq_true rfl) dX8_twins_14) hp (fun r3 I2 H locs h hp => ?_)
    refine lv_if_ne (tgt := 23) hx hb dX8_twins_17 (by decide) (fun c4 => ?_) (fun c4 => ?_)
    · have h := h.1 c4
      refine lv_iconst (v := (nI 0)) hx hb dX8_twins_23 (by decide) ?_
      refine lv_istore_n (lv' := [(2, .int (nI 0)), (0, .ref (E.2.1 315)), (1, .int x1)]) hx hb dX8_twins_24 rfl hl (by decide) rfl (fun ls hl => ?_)
      refine lv_ldc (v := (-nI 1000000)) hx hb hown (hts _ tw_k_X8_149) dX8_twins_25 ?_
      refine lv_istore_n (lv' := [(3, .int (-nI 1000000)), (2, .int (nI 0)), (0, .ref (E.2.1 315)), (1, .int x1)]) hx hb dX8_twins_27 rfl hl (by decide) rfl (fun ls hl => ?_)
      refine lv_aload_n hx hb dX8_twins_28 rfl (lv_at hl 2 rfl) ?_
      refine f_X8_7 X hp dX8_twins_29 ?_
      refine lv_iconst (v := (nI 0)) hx hb dX8_twins_32 (by decide) ?_
      have hv5 := h.1
      have h := h.2
      refine al_i X hp ar_s316 hv5 dX8_twins_33 ?_
      refine lv_iconst (v := (nI 1)) hx hb dX8_twins_34 (by decide) ?_
      refine lv_isub hx hb dX8_twins_35 ?_
      refine lv_istore (lv' := [(4, .int ((I2 316 (nI 0).toNatClampNeg) - (nI 1))), (3, .int (-nI 1000000)), (2, .int (nI 0)), (0, .ref (E.2.1 315)), (1, .int x1)]) hx hb dX8_twins_36 hl (by decide) rfl (fun ls hl => ?_)
      obtain ⟨n57, h⟩ := h
      refine w_X8_twins_38 X ?_ n57 _ _ _ _ _ _ _ _ h hp (lv_sub hl [3, 4, 2, 1, 0] rfl)
      · intro x1 x2 x3 I H locs ls h hp hl
        refine lv_iload_n hx hb dX8_twins_133 rfl (lv_at hl 0 rfl) ?_
        refine lv_if_ne (tgt := 141) hx hb dX8_twins_134 (by decide) (fun c56 => ?_) (fun c56 => ?_)
        · have h := h.1 c56
          refine lv_iload_n hx hb dX8_twins_141 rfl (lv_at hl 2 rfl) ?_
          exact rt_i X hp h dX8_twins_142
        · have h := h.2 c56
          refine lv_iload_n hx hb dX8_twins_137 rfl (lv_at hl 1 rfl) ?_
          refine lv_goto (tgt := 142) hx hb dX8_twins_138 (by decide) ?_
          exact rt_i X hp h dX8_twins_142
    · have h := h.2 c4
      refine lv_ldc (v := (-nI 1000001)) hx hb hown (hts _ tw_k_X8_55) dX8_twins_20 ?_
      exact rt_i X hp h dX8_twins_22
  · have h := h.2 c1
    refine lv_ldc (v := (-nI 1000002)) hx hb hown (hts _ tw_k_X8_144) dX8_twins_7 ?_
    exact rt_i X hp h dX8_twins_9
set_option maxRecDepth 100000 in
theorem C_X8_twins {E : EE} {l : Launch} {x1 : Int32} {I : II} {Q : Int32 → II → Prop} (h : wp_X8_twins x1 I Q) : Met l yX8_twins (Cond.code yX8_twins cX8_twins 7 (some .int) :: lwT) rmX8_twins (va_Pc [.ref (E.2.1 315), .int x1] (PU E I)) (va_Qi Q (BU E) E.2.2.2.1) 0 0 E.2.2.2.1 :=
  ofWalk [.ref (E.2.1 315), .int x1] (by decide) tw_c_X8_twins (Nat.le_of_ble_eq_true rfl) (fun p e s m below meth c ls X hp hl => w_X8_twins_0 X _ _ _ _ _ h hp hl)
abbrev rmX8_noItems : Room := { frames := 1, cells := 0, slots := 0, locals := 23 }
theorem vf_X8_noItems : VF yX8_noItems RX8 cX8_noItems 4 (some .int) 3 := ⟨tw_in_X8, tw_im_X8_noItems, tw_se_X8_noItems, tw_c_X8_noItems, by decide, by decide, by decide +kernel⟩
def wp_X8_noItems (x1 : Int32) (x2 : Int32) (x3 : Int32) (I : II) (Q : Int32 → II → Prop) : Prop := (vp_in x1 8 ∧ ((0 ≤ (I 319 x1.toNatClampNeg) → (wp_X8_isSpan x1 x2 x3 I (fun r4 I3 => ((r4 = 0 → (wp_X8_find (nI 2) I3 (fun r7 I6 => (Q r7 I6)))) ∧ (¬ r4 = 0 → (Q (nI 0) I3)))))) ∧ (¬ 0 ≤ (I 319 x1.toNatClampNeg) → (wp_X8_find (nI 1) I (fun r9 I8 => (Q r9 I8))))))
set_option maxHeartbeats 4000000 in
set_option maxRecDepth 100000 in
theorem w_X8_noItems_0 {E : EE} {p : Program} {l : Launch} {e : Env} {s : State} {m : MethodId} {args : Array Value} {below : List Frame} {meth : Method} {c : Code} {Q : Int32 → II → Prop} (X : CX E p s m args meth c cX8_noItems 4 (some .int) RX8) : ∀ (x1 : Int32) (x2 : Int32) (x3 : Int32) (I : II) (H : Heap) (locs : List Loc) (ls : Array Slot), wp_X8_noItems x1 x2 x3 I Q → PP E s H locs I → lv_has ls 4 [(0, .ref (E.2.1 315)), (1, .int x1), (2, .int x2), (3, .int x3)] → W p l e rmX8_noItems s m args below meth c H locs 0 0 (MQ below (va_Qi Q (BU E) E.2.2.2.1) args s 0 0 E.2.2.2.1) (F0 m 0 ls []) := by
  obtain ⟨⟨hx, hb, hml, hown, hts⟩, hr, hlk, hK, hST, hN⟩ := id X
  intro x1 x2 x3 I H locs ls h hp hl
  unfold wp_X8_noItems at h
  refine lv_aload_n hx hb dX8_noItems_0 rfl (lv_at hl 0 rfl) ?_
  refine f_X8_20 X hp dX8_noItems_1 ?_
  refine lv_iload_n hx hb dX8_noItems_4 rfl (lv_at hl 1 rfl) ?_
  have hv1 := h.1
  have h := h.2
  refine al_i X hp ar_s319 hv1 dX8_noItems_5 ?_
  refine lv_if_ge (tgt := 17) hx hb dX8_noItems_6 (by decide) (fun c2 => ?_) (fun c2 => ?_)
  · have h := h.1 c2
    refine lv_aload_n hx hb dX8_noItems_17 rfl (lv_at hl 0 rfl) ?_
    refine lv_iload_n hx hb dX8_noItems_18 rfl (lv_at hl 1 rfl) ?_
    refine lv_iload_n hx hb dX8_noItems_19 rfl (lv_at hl 2 rfl) ?_
    refine lv_iload_n hx hb dX8_noItems_20 rfl (lv_at hl 3 rfl) ?_
    refine ki (kV (As := [.int x1, .int x2, .int x3]) (rest := []) X hp (C_X8_isSpan  h) tw_ml_X8_67 vf_X8_isSpan ⟨rfl, rfl, Nat.le_of_ble_eq_true rfl, Nat.le_of_ble_eq_true rfl⟩ (pr_rcv X hp (k := 315) (by decide) (ob_315 _) (q := (RX8, TX8, 18)) rfl) rfl hl.1 rfl (Nat.le_of_ble_eq_true rfl) dX8_noItems_21) hp (fun r4 I3 H locs h hp => ?_)
    refine lv_if_eq (tgt := 31) hx hb dX8_noItems_24 (by decide) (fun c5 => ?_) (fun c5 => ?_)
    · have h := h.1 c5
      refine lv_aload_n hx hb dX8_noItems_31 rfl (lv_at hl 0 rfl) ?_
      refine lv_iconst (v := (nI 2)) hx hb dX8_noItems_32 (by decide) ?_
      refine ki (kV (As := [.int (nI 2)]) (rest := []) X hp (C_X8_find  h) tw_ml_X8_56 vf_X8_find ⟨rfl, rfl, Nat.le_of_ble_eq_true rfl, Nat.le_of_ble_eq_true rfl⟩ (pr_rcv X hp (k := 315) (by decide) (ob_315 _) (q := (RX8, TX8, 18)) rfl) rfl hl.1 rfl (Nat.le_of_ble_eq_true rfl) dX8_noItems_33) hp (fun r7 I6 H locs h hp => ?_)
      exact rt_i X hp h dX8_noItems_36
    · have h := h.2 c5
      refine lv_iconst (v := (nI 0)) hx hb dX8_noItems_27 (by decide) ?_
      refine lv_goto (tgt := 36) hx hb dX8_noItems_28 (by decide) ?_
      exact rt_i X hp h dX8_noItems_36
  · have h := h.2 c2
    refine lv_aload_n hx hb dX8_noItems_9 rfl (lv_at hl 0 rfl) ?_
    refine lv_iconst (v := (nI 1)) hx hb dX8_noItems_10 (by decide) ?_
    refine ki (kV (As := [.int (nI 1)]) (rest := []) X hp (C_X8_find  h) tw_ml_X8_56 vf_X8_find ⟨rfl, rfl, Nat.le_of_ble_eq_true rfl, Nat.le_of_ble_eq_true rfl⟩ (pr_rcv X hp (k := 315) (by decide) (ob_315 _) (q := (RX8, TX8, 18)) rfl) rfl hl.1 rfl (Nat.le_of_ble_eq_true rfl) dX8_noItems_11) hp (fun r9 I8 H locs h hp => ?_)
    refine lv_goto (tgt := 36) hx hb dX8_noItems_14 (by decide) ?_
    exact rt_i X hp h dX8_noItems_36
set_option maxRecDepth 100000 in
theorem C_X8_noItems {E : EE} {l : Launch} {x1 : Int32} {x2 : Int32} {x3 : Int32} {I : II} {Q : Int32 → II → Prop} (h : wp_X8_noItems x1 x2 x3 I Q) : Met l yX8_noItems (Cond.code yX8_noItems cX8_noItems 4 (some .int) :: lwT) rmX8_noItems (va_Pc [.ref (E.2.1 315), .int x1, .int x2, .int x3] (PU E I)) (va_Qi Q (BU E) E.2.2.2.1) 0 0 E.2.2.2.1 :=
  ofWalk [.ref (E.2.1 315), .int x1, .int x2, .int x3] (by decide) tw_c_X8_noItems (Nat.le_of_ble_eq_true rfl) (fun p e s m below meth c ls X hp hl => w_X8_noItems_0 X _ _ _ _ _ _ _ h hp hl)
abbrev rmX8_isSo : Room := { frames := 4, cells := 0, slots := 0, locals := 97 }
theorem vf_X8_isSo : VF yX8_isSo RX8 cX8_isSo 6 (some .boolean) 4 := ⟨tw_in_X8, tw_im_X8_isSo, tw_se_X8_isSo, tw_c_X8_isSo, by decide, by decide, by decide +kernel⟩
def wp_X8_isSo_3 (Q : Int32 → II → Prop) (k45 : II → Prop) (k53 : II → Prop) : Nat → Int32 → Int32 → Int32 → Int32 → Int32 → II → Prop
  | 0, _, _, _, _, _, _ => False
  | n + 1, x1, x2, x3, x4, x5, I => ((x4 ≤ x5 → (k53 I)) ∧ (¬ x4 ≤ x5 → (wp_X8_pass (nI 1323) I (fun r3 I2 => (vp_in ((nI 1364) + x1) 1372 ∧ (vp_in ((((nI 40) * x2) + x3) + x5) 320 ∧ (((I2 316 ((nI 1364) + x1).toNatClampNeg) = (I2 320 ((((nI 40) * x2) + x3) + x5).toNatClampNeg) → (wp_X8_isSo_3 Q k45 k53 n x1 x2 x3 x4 (x5 + (nI 1)) I2)) ∧ (¬ (I2 316 ((nI 1364) + x1).toNatClampNeg) = (I2 320 ((((nI 40) * x2) + x3) + x5).toNatClampNeg) → (k45 I2)))))))))
set_option maxHeartbeats 4000000 in
set_option maxRecDepth 100000 in
theorem w_X8_isSo_3 {E : EE} {p : Program} {l : Launch} {e : Env} {s : State} {m : MethodId} {args : Array Value} {below : List Frame} {meth : Method} {c : Code} {Q : Int32 → II → Prop} {k45 : II → Prop} {k53 : II → Prop} (X : CX E p s m args meth c cX8_isSo 6 (some .boolean) RX8) (K45 : ∀ (I : II) (H : Heap) (locs : List Loc) (ls : Array Slot), k45 I → PP E s H locs I → lv_has ls 6 [] → W p l e rmX8_isSo s m args below meth c H locs 0 0 (MQ below (va_Qi Q (BU E) E.2.2.2.1) args s 0 0 E.2.2.2.1) (F0 m 45 ls [])) (K53 : ∀ (I : II) (H : Heap) (locs : List Loc) (ls : Array Slot), k53 I → PP E s H locs I → lv_has ls 6 [] → W p l e rmX8_isSo s m args below meth c H locs 0 0 (MQ below (va_Qi Q (BU E) E.2.2.2.1) args s 0 0 E.2.2.2.1) (F0 m 53 ls [])) : ∀ (n : Nat) (x1 : Int32) (x2 : Int32) (x3 : Int32) (x4 : Int32) (x5 : Int32) (I : II) (H : Heap) (locs : List Loc) (ls : Array Slot), wp_X8_isSo_3 Q k45 k53 n x1 x2 x3 x4 x5 I → PP E s H locs I → lv_has ls 6 [(0, .ref (E.2.1 315)), (1, .int x1), (2, .int x2), (3, .int x3), (4, .int x4), (5, .int x5)] → W p l e rmX8_isSo s m args below meth c H locs 0 0 (MQ below (va_Qi Q (BU E) E.2.2.2.1) args s 0 0 E.2.2.2.1) (F0 m 3 ls []) := by
  obtain ⟨⟨hx, hb, hml, hown, hts⟩, hr, hlk, hK, hST, hN⟩ := id X
  intro n
  induction n with
  | zero =>
    intro x1 x2 x3 x4 x5 I H locs ls h hp hl
    exact False.elim h
  | succ n ih =>
    intro x1 x2 x3 x4 x5 I H locs ls h hp hl
    rw [wp_X8_isSo_3.eq_2] at h
    refine lv_iload hx hb dX8_isSo_3 (lv_at hl 5 rfl) ?_
    refine lv_iload hx hb dX8_isSo_5 (lv_at hl 4 rfl) ?_
    refine lv_icmp_ge (tgt := 53) hx hb dX8_isSo_7 (by decide) (fun c1 => ?_) (fun c1 => ?_)
    · have h := h.1 c1
      exact K53 _ _ _ _ h hp (lv_sub hl [] rfl)
    · have h := h.2 c1
      refine lv_aload_n hx hb dX8_isSo_10 rfl (lv_at hl 0 rfl) ?_
      refine lv_sipush (v := (nI 1323)) hx hb dX8_isSo_11 (by decide) ?_
      refine ki (kV (As := [.int (nI 1323)]) (rest := []) X hp (C_X8_pass  h) tw_ml_X8_167 vf_X8_pass ⟨rfl, rfl, Nat.le_of_ble_eq_true rfl, Nat.le_of_ble_eq_true rfl⟩ (pr_rcv X hp (k := 315) (by decide) (ob_315 _) (q := (RX8, TX8, 18)) rfl) rfl hl.1 rfl (Nat.le_of_ble_eq_true rfl) dX8_isSo_14) hp (fun r3 I2 H locs h hp => ?_)
      refine lv_pop hx hb dX8_isSo_17 rfl ?_
      refine lv_aload_n hx hb dX8_isSo_18 rfl (lv_at hl 0 rfl) ?_
      refine f_X8_7 X hp dX8_isSo_19 ?_
      refine lv_sipush (v := (nI 1364)) hx hb dX8_isSo_22 (by decide) ?_
      refine lv_iload_n hx hb dX8_isSo_25 rfl (lv_at hl 1 rfl) ?_
      refine lv_iadd hx hb dX8_isSo_26 ?_
      have hv4 := h.1
      have h := h.2
      refine al_i X hp ar_s316 hv4 dX8_isSo_27 ?_
      refine lv_aload_n hx hb dX8_isSo_28 rfl (lv_at hl 0 rfl) ?_
      refine f_X8_23 X hp dX8_isSo_29 ?_
      refine lv_bipush (v := (nI 40)) hx hb dX8_isSo_32 (by decide) ?_
      refine lv_iload_n hx hb dX8_isSo_34 rfl (lv_at hl 2 rfl) ?_
      refine lv_imul hx hb dX8_isSo_35 ?_
      refine lv_iload_n hx hb dX8_isSo_36 rfl (lv_at hl 3 rfl) ?_
      refine lv_iadd hx hb dX8_isSo_37 ?_
      refine lv_iload hx hb dX8_isSo_38 (lv_at hl 5 rfl) ?_
      refine lv_iadd hx hb dX8_isSo_40 ?_
      have hv5 := h.1
      have h := h.2
      refine al_i X hp ar_s320 hv5 dX8_isSo_41 ?_
      refine lv_icmp_eq (tgt := 47) hx hb dX8_isSo_42 (by decide) (fun c6 => ?_) (fun c6 => ?_)
      · have h := h.1 c6
        refine lv_iinc (v := (x5 + (nI 1))) (lv' := [(5, .int (x5 + (nI 1))), (0, .ref (E.2.1 315)), (1, .int x1), (2, .int x2), (3, .int x3), (4, .int x4)]) hx hb dX8_isSo_47 hl (k := 5) rfl rfl (by decide) rfl (fun ls hl => ?_)
        refine lv_goto (tgt := 3) hx hb dX8_isSo_50 (by decide) ?_
        exact ih _ _ _ _ _ _ _ _ _ h hp (lv_sub hl [1, 2, 3, 4, 5, 0] rfl)
      · have h := h.2 c6
        exact K45 _ _ _ _ h hp (lv_sub hl [] rfl)
def wp_X8_isSo (x1 : Int32) (x2 : Int32) (x3 : Int32) (x4 : Int32) (I : II) (Q : Int32 → II → Prop) : Prop := (∃ n101, wp_X8_isSo_3 Q (fun I => (Q (nI 0) I)) (fun I => (Q (nI 1) I)) n101 x1 x2 x3 x4 (nI 0) I)
set_option maxHeartbeats 4000000 in
set_option maxRecDepth 100000 in
theorem w_X8_isSo_0 {E : EE} {p : Program} {l : Launch} {e : Env} {s : State} {m : MethodId} {args : Array Value} {below : List Frame} {meth : Method} {c : Code} {Q : Int32 → II → Prop} (X : CX E p s m args meth c cX8_isSo 6 (some .boolean) RX8) : ∀ (x1 : Int32) (x2 : Int32) (x3 : Int32) (x4 : Int32) (I : II) (H : Heap) (locs : List Loc) (ls : Array Slot), wp_X8_isSo x1 x2 x3 x4 I Q → PP E s H locs I → lv_has ls 6 [(0, .ref (E.2.1 315)), (1, .int x1), (2, .int x2), (3, .int x3), (4, .int x4)] → W p l e rmX8_isSo s m args below meth c H locs 0 0 (MQ below (va_Qi Q (BU E) E.2.2.2.1) args s 0 0 E.2.2.2.1) (F0 m 0 ls []) := by
  obtain ⟨⟨hx, hb, hml, hown, hts⟩, hr, hlk, hK, hST, hN⟩ := id X
  intro x1 x2 x3 x4 I H locs ls h hp hl
  unfold wp_X8_isSo at h
  refine lv_iconst (v := (nI 0)) hx hb dX8_isSo_0 (by decide) ?_
  refine lv_istore (lv' := [(5, .int (nI 0)), (0, .ref (E.2.1 315)), (1, .int x1), (2, .int x2), (3, .int x3), (4, .int x4)]) hx hb dX8_isSo_1 hl (by decide) rfl (fun ls hl => ?_)
  obtain ⟨n101, h⟩ := h
  refine w_X8_isSo_3 X ?_ ?_ n101 _ _ _ _ _ _ _ _ _ h hp (lv_sub hl [1, 2, 3, 4, 5, 0] rfl)
  · intro I H locs ls h hp hl
    refine lv_iconst (v := (nI 0)) hx hb dX8_isSo_45 (by decide) ?_
    exact rt_z X hp ⟨Or.inl rfl, h⟩ dX8_isSo_46
  · intro I H locs ls h hp hl
    refine lv_iconst (v := (nI 1)) hx hb dX8_isSo_53 (by decide) ?_
    exact rt_z X hp ⟨Or.inr rfl, h⟩ dX8_isSo_54
set_option maxRecDepth 100000 in
theorem C_X8_isSo {E : EE} {l : Launch} {x1 : Int32} {x2 : Int32} {x3 : Int32} {x4 : Int32} {I : II} {Q : Int32 → II → Prop} (h : wp_X8_isSo x1 x2 x3 x4 I Q) : Met l yX8_isSo (Cond.code yX8_isSo cX8_isSo 6 (some .boolean) :: lwT) rmX8_isSo (va_Pc [.ref (E.2.1 315), .int x1, .int x2, .int x3, .int x4] (PU E I)) (va_Qi Q (BU E) E.2.2.2.1) 0 0 E.2.2.2.1 :=
  ofWalk [.ref (E.2.1 315), .int x1, .int x2, .int x3, .int x4] (by decide) tw_c_X8_isSo (Nat.le_of_ble_eq_true rfl) (fun p e s m below meth c ls X hp hl => w_X8_isSo_0 X _ _ _ _ _ _ _ _ h hp hl)
abbrev rmX8_who : Room := { frames := 6, cells := 0, slots := 0, locals := 141 }
theorem vf_X8_who : VF yX8_who RX8 cX8_who 10 (some .int) 6 := ⟨tw_in_X8, tw_im_X8_who, tw_se_X8_who, tw_c_X8_who, by decide, by decide, by decide +kernel⟩
def wp_X8_who_145 (Q : Int32 → II → Prop) (k76 : Int32 → Int32 → Int32 → Int32 → Int32 → Int32 → Int32 → Int32 → II → Prop) (x1 : Int32) (x2 : Int32) (x3 : Int32) (x4 : Int32) (x5 : Int32) (x6 : Int32) (x9 : Int32) (v0 : Int32) (v1 : Int32) (I : II) : Prop := (k76 x1 x2 x3 x4 x5 x6 (v1 ||| v0) (x9 + (nI 1)) I)
set_option maxHeartbeats 4000000 in
set_option maxRecDepth 100000 in
theorem w_X8_who_145 {E : EE} {p : Program} {l : Launch} {e : Env} {s : State} {m : MethodId} {args : Array Value} {below : List Frame} {meth : Method} {c : Code} {Q : Int32 → II → Prop} {k76 : Int32 → Int32 → Int32 → Int32 → Int32 → Int32 → Int32 → Int32 → II → Prop} (X : CX E p s m args meth c cX8_who 10 (some .int) RX8) (K76 : ∀ (x1 : Int32) (x2 : Int32) (x3 : Int32) (x4 : Int32) (x5 : Int32) (x6 : Int32) (x8 : Int32) (x9 : Int32) (I : II) (H : Heap) (locs : List Loc) (ls : Array Slot), k76 x1 x2 x3 x4 x5 x6 x8 x9 I → PP E s H locs I → lv_has ls 10 [(0, .ref (E.2.1 315)), (1, .int x1), (2, .int x2), (3, .int x3), (4, .int x4), (5, .int x5), (6, .int x6), (8, .int x8), (9, .int x9)] → W p l e rmX8_who s m args below meth c H locs 0 0 (MQ below (va_Qi Q (BU E) E.2.2.2.1) args s 0 0 E.2.2.2.1) (F0 m 76 ls [])) : ∀ (x1 : Int32) (x2 : Int32) (x3 : Int32) (x4 : Int32) (x5 : Int32) (x6 : Int32) (x9 : Int32) (v0 : Int32) (v1 : Int32) (I : II) (H : Heap) (locs : List Loc) (ls : Array Slot), wp_X8_who_145 Q k76 x1 x2 x3 x4 x5 x6 x9 v0 v1 I → PP E s H locs I → lv_has ls 10 [(0, .ref (E.2.1 315)), (1, .int x1), (2, .int x2), (3, .int x3), (4, .int x4), (5, .int x5), (6, .int x6), (9, .int x9)] → W p l e rmX8_who s m args below meth c H locs 0 0 (MQ below (va_Qi Q (BU E) E.2.2.2.1) args s 0 0 E.2.2.2.1) (F0 m 145 ls [.int v0, .int v1]) := by
  obtain ⟨⟨hx, hb, hml, hown, hts⟩, hr, hlk, hK, hST, hN⟩ := id X
  intro x1 x2 x3 x4 x5 x6 x9 v0 v1 I H locs ls h hp hl
  unfold wp_X8_who_145 at h
  refine lv_ior hx hb dX8_who_145 ?_
  refine lv_istore (lv' := [(8, .int (v1 ||| v0)), (0, .ref (E.2.1 315)), (1, .int x1), (2, .int x2), (3, .int x3), (4, .int x4), (5, .int x5), (6, .int x6), (9, .int x9)]) hx hb dX8_who_146 hl (by decide) rfl (fun ls hl => ?_)
  refine lv_iinc (v := (x9 + (nI 1))) (lv' := [(9, .int (x9 + (nI 1))), (8, .int (v1 ||| v0)), (0, .ref (E.2.1 315)), (1, .int x1), (2, .int x2), (3, .int x3), (4, .int x4), (5, .int x5), (6, .int x6)]) hx hb dX8_who_148 hl (k := 8) rfl rfl (by decide) rfl (fun ls hl => ?_)
  refine lv_goto (tgt := 76) hx hb dX8_who_151 (by decide) ?_
  exact K76 _ _ _ _ _ _ _ _ _ _ _ _ h hp (lv_sub hl [2, 3, 4, 5, 6, 7, 8, 1, 0] rfl)
def wp_X8_who_115 (Q : Int32 → II → Prop) (k76 : Int32 → Int32 → Int32 → Int32 → Int32 → Int32 → Int32 → Int32 → II → Prop) (x1 : Int32) (x2 : Int32) (x3 : Int32) (x4 : Int32) (x5 : Int32) (x6 : Int32) (x8 : Int32) (x9 : Int32) (v0 : Int32) (v1 : Int32) (I : II) : Prop := (vp_in ((v1 + v0) + x1) 1372 ∧ ∀ I2 : II, I2 = su I 316 ((v1 + v0) + x1).toNatClampNeg x9 → (wp_X8_isSo x3 x4 x5 x6 I2 (fun r5 I4 => ((r5 = 0 → (wp_X8_who_145 Q k76 x1 x2 x3 x4 x5 x6 x9 (nI 0) x8 I4)) ∧ (¬ r5 = 0 → (wp_X8_who_145 Q k76 x1 x2 x3 x4 x5 x6 x9 ((nI 1) <<< (x9 &&& 31)) x8 I4))))))
set_option maxHeartbeats 4000000 in
set_option maxRecDepth 100000 in
theorem w_X8_who_115 {E : EE} {p : Program} {l : Launch} {e : Env} {s : State} {m : MethodId} {args : Array Value} {below : List Frame} {meth : Method} {c : Code} {Q : Int32 → II → Prop} {k76 : Int32 → Int32 → Int32 → Int32 → Int32 → Int32 → Int32 → Int32 → II → Prop} (X : CX E p s m args meth c cX8_who 10 (some .int) RX8) (K76 : ∀ (x1 : Int32) (x2 : Int32) (x3 : Int32) (x4 : Int32) (x5 : Int32) (x6 : Int32) (x8 : Int32) (x9 : Int32) (I : II) (H : Heap) (locs : List Loc) (ls : Array Slot), k76 x1 x2 x3 x4 x5 x6 x8 x9 I → PP E s H locs I → lv_has ls 10 [(0, .ref (E.2.1 315)), (1, .int x1), (2, .int x2), (3, .int x3), (4, .int x4), (5, .int x5), (6, .int x6), (8, .int x8), (9, .int x9)] → W p l e rmX8_who s m args below meth c H locs 0 0 (MQ below (va_Qi Q (BU E) E.2.2.2.1) args s 0 0 E.2.2.2.1) (F0 m 76 ls [])) : ∀ (x1 : Int32) (x2 : Int32) (x3 : Int32) (x4 : Int32) (x5 : Int32) (x6 : Int32) (x8 : Int32) (x9 : Int32) (v0 : Int32) (v1 : Int32) (I : II) (H : Heap) (locs : List Loc) (ls : Array Slot), wp_X8_who_115 Q k76 x1 x2 x3 x4 x5 x6 x8 x9 v0 v1 I → PP E s H locs I → lv_has ls 10 [(0, .ref (E.2.1 315)), (1, .int x1), (2, .int x2), (3, .int x3), (4, .int x4), (5, .int x5), (6, .int x6), (8, .int x8), (9, .int x9)] → W p l e rmX8_who s m args below meth c H locs 0 0 (MQ below (va_Qi Q (BU E) E.2.2.2.1) args s 0 0 E.2.2.2.1) (F0 m 115 ls [.int v0, .int v1, .ref (E.2.1 316)]) := by
  obtain ⟨⟨hx, hb, hml, hown, hts⟩, hr, hlk, hK, hST, hN⟩ := id X
  intro x1 x2 x3 x4 x5 x6 x8 x9 v0 v1 I H locs ls h hp hl
  unfold wp_X8_who_115 at h
  refine lv_iadd hx hb dX8_who_115 ?_
  refine lv_iload_n hx hb dX8_who_116 rfl (lv_at hl 1 rfl) ?_
  refine lv_iadd hx hb dX8_who_117 ?_
  refine lv_iload hx hb dX8_who_118 (lv_at hl 8 rfl) ?_
  have hv1 := h.1
  have h := h.2
  refine as_i X hp ar_s316 hv1 dX8_who_120 (fun H locs hp => ?_)
  obtain ⟨I2, e3⟩ : ∃ y, y = su I 316 ((v1 + v0) + x1).toNatClampNeg x9 := ⟨_, rfl⟩
  have hp : PP E s H locs I2 := by rw [e3]; exact hp
  have h := h I2 e3
  refine lv_iload hx hb dX8_who_121 (lv_at hl 7 rfl) ?_
  refine lv_aload_n hx hb dX8_who_123 rfl (lv_at hl 0 rfl) ?_
  refine lv_iload_n hx hb dX8_who_124 rfl (lv_at hl 3 rfl) ?_
  refine lv_iload hx hb dX8_who_125 (lv_at hl 4 rfl) ?_
  refine lv_iload hx hb dX8_who_127 (lv_at hl 5 rfl) ?_
  refine lv_iload hx hb dX8_who_129 (lv_at hl 6 rfl) ?_
  refine ki (kV (As := [.int x3, .int x4, .int x5, .int x6]) (rest := [.int x8]) X hp (C_X8_isSo  h) tw_ml_X8_228 vf_X8_isSo ⟨rfl, rfl, Nat.le_of_ble_eq_true rfl, Nat.le_of_ble_eq_true rfl⟩ (pr_rcv X hp (k := 315) (by decide) (ob_315 _) (q := (RX8, TX8, 18)) rfl) rfl hl.1 rfl (Nat.le_of_ble_eq_true rfl) dX8_who_131) hp (fun r5 I4 H locs h hp => ?_)
  refine lv_if_eq (tgt := 144) hx hb dX8_who_134 (by decide) (fun c6 => ?_) (fun c6 => ?_)
  · have h := h.1 c6
    refine lv_iconst (v := (nI 0)) hx hb dX8_who_144 (by decide) ?_
    exact w_X8_who_145 X K76 _ _ _ _ _ _ _ _ _ _ _ _ _ h hp (lv_sub hl [0, 1, 2, 3, 4, 5, 6, 8] rfl)
  · have h := h.2 c6
    refine lv_iconst (v := (nI 1)) hx hb dX8_who_137 (by decide) ?_
    refine lv_iload hx hb dX8_who_138 (lv_at hl 8 rfl) ?_
    refine lv_ishl hx hb dX8_who_140 ?_
    refine lv_goto (tgt := 145) hx hb dX8_who_141 (by decide) ?_
    exact w_X8_who_145 X K76 _ _ _ _ _ _ _ _ _ _ _ _ _ h hp (lv_sub hl [0, 1, 2, 3, 4, 5, 6, 8] rfl)
def wp_X8_who_89 (Q : Int32 → II → Prop) (k76 : Int32 → Int32 → Int32 → Int32 → Int32 → Int32 → Int32 → Int32 → II → Prop) (k154 : Int32 → II → Prop) (x1 : Int32) (x2 : Int32) (x3 : Int32) (x4 : Int32) (x5 : Int32) (x6 : Int32) (x8 : Int32) (x9 : Int32) (v0 : Int32) (v1 : Int32) (I : II) : Prop := ((v0 ≤ v1 → (k154 x8 I)) ∧ (¬ v0 ≤ v1 → (wp_X8_layTried (nI 0) I (fun I2 => ((¬ x2 = 0 → (wp_X8_who_115 Q k76 x1 x2 x3 x4 x5 x6 x8 x9 (nI 37) (nI 1323) I2)) ∧ (x2 = 0 → (wp_X8_who_115 Q k76 x1 x2 x3 x4 x5 x6 x8 x9 (nI 29) (nI 1323) I2)))))))
set_option maxHeartbeats 4000000 in
set_option maxRecDepth 100000 in
theorem w_X8_who_89 {E : EE} {p : Program} {l : Launch} {e : Env} {s : State} {m : MethodId} {args : Array Value} {below : List Frame} {meth : Method} {c : Code} {Q : Int32 → II → Prop} {k76 : Int32 → Int32 → Int32 → Int32 → Int32 → Int32 → Int32 → Int32 → II → Prop} {k154 : Int32 → II → Prop} (X : CX E p s m args meth c cX8_who 10 (some .int) RX8) (K76 : ∀ (x1 : Int32) (x2 : Int32) (x3 : Int32) (x4 : Int32) (x5 : Int32) (x6 : Int32) (x8 : Int32) (x9 : Int32) (I : II) (H : Heap) (locs : List Loc) (ls : Array Slot), k76 x1 x2 x3 x4 x5 x6 x8 x9 I → PP E s H locs I → lv_has ls 10 [(0, .ref (E.2.1 315)), (1, .int x1), (2, .int x2), (3, .int x3), (4, .int x4), (5, .int x5), (6, .int x6), (8, .int x8), (9, .int x9)] → W p l e rmX8_who s m args below meth c H locs 0 0 (MQ below (va_Qi Q (BU E) E.2.2.2.1) args s 0 0 E.2.2.2.1) (F0 m 76 ls [])) (K154 : ∀ (x8 : Int32) (I : II) (H : Heap) (locs : List Loc) (ls : Array Slot), k154 x8 I → PP E s H locs I → lv_has ls 10 [(0, .ref (E.2.1 315)), (8, .int x8)] → W p l e rmX8_who s m args below meth c H locs 0 0 (MQ below (va_Qi Q (BU E) E.2.2.2.1) args s 0 0 E.2.2.2.1) (F0 m 154 ls [])) : ∀ (x1 : Int32) (x2 : Int32) (x3 : Int32) (x4 : Int32) (x5 : Int32) (x6 : Int32) (x8 : Int32) (x9 : Int32) (v0 : Int32) (v1 : Int32) (I : II) (H : Heap) (locs : List Loc) (ls : Array Slot), wp_X8_who_89 Q k76 k154 x1 x2 x3 x4 x5 x6 x8 x9 v0 v1 I → PP E s H locs I → lv_has ls 10 [(0, .ref (E.2.1 315)), (1, .int x1), (2, .int x2), (3, .int x3), (4, .int x4), (5, .int x5), (6, .int x6), (8, .int x8), (9, .int x9)] → W p l e rmX8_who s m args below meth c H locs 0 0 (MQ below (va_Qi Q (BU E) E.2.2.2.1) args s 0 0 E.2.2.2.1) (F0 m 89 ls [.int v0, .int v1]) := by
  obtain ⟨⟨hx, hb, hml, hown, hts⟩, hr, hlk, hK, hST, hN⟩ := id X
  intro x1 x2 x3 x4 x5 x6 x8 x9 v0 v1 I H locs ls h hp hl
  unfold wp_X8_who_89 at h
  refine lv_icmp_ge (tgt := 154) hx hb dX8_who_89 (by decide) (fun c1 => ?_) (fun c1 => ?_)
  · have h := h.1 c1
    exact K154 _ _ _ _ _ h hp (lv_sub hl [0, 7] rfl)
  · have h := h.2 c1
    refine lv_aload_n hx hb dX8_who_92 rfl (lv_at hl 0 rfl) ?_
    refine lv_iconst (v := (nI 0)) hx hb dX8_who_93 (by decide) ?_
    refine kv (kV (As := [.int (nI 0)]) (rest := []) X hp (C_X8_layTried  h) tw_ml_X8_199 vf_X8_layTried ⟨rfl, rfl, Nat.le_of_ble_eq_true rfl, Nat.le_of_ble_eq_true rfl⟩ (pr_rcv X hp (k := 315) (by decide) (ob_315 _) (q := (RX8, TX8, 18)) rfl) rfl hl.1 rfl (Nat.le_of_ble_eq_true rfl) dX8_who_94) hp (fun I2 H locs h hp => ?_)
    refine lv_aload_n hx hb dX8_who_97 rfl (lv_at hl 0 rfl) ?_
    refine f_X8_7 X hp dX8_who_98 ?_
    refine lv_sipush (v := (nI 1323)) hx hb dX8_who_101 (by decide) ?_
    refine lv_iload_n hx hb dX8_who_104 rfl (lv_at hl 2 rfl) ?_
    refine lv_if_ne (tgt := 113) hx hb dX8_who_105 (by decide) (fun c4 => ?_) (fun c4 => ?_)
    · have h := h.1 c4
      refine lv_bipush (v := (nI 37)) hx hb dX8_who_113 (by decide) ?_
      exact w_X8_who_115 X K76 _ _ _ _ _ _ _ _ _ _ _ _ _ _ h hp (lv_sub hl [0, 1, 2, 3, 4, 5, 6, 7, 8] rfl)
    · have h := h.2 c4
      refine lv_bipush (v := (nI 29)) hx hb dX8_who_108 (by decide) ?_
      refine lv_goto (tgt := 115) hx hb dX8_who_110 (by decide) ?_
      exact w_X8_who_115 X K76 _ _ _ _ _ _ _ _ _ _ _ _ _ _ h hp (lv_sub hl [0, 1, 2, 3, 4, 5, 6, 7, 8] rfl)
def wp_X8_who_76 (Q : Int32 → II → Prop) (k154 : Int32 → II → Prop) : Nat → Int32 → Int32 → Int32 → Int32 → Int32 → Int32 → Int32 → Int32 → II → Prop
  | 0, _, _, _, _, _, _, _, _, _ => False
  | n + 1, x1, x2, x3, x4, x5, x6, x8, x9, I => ((¬ x2 = 0 → (wp_X8_who_89 Q (fun x1 x2 x3 x4 x5 x6 x8 x9 I => wp_X8_who_76 Q k154 n x1 x2 x3 x4 x5 x6 x8 x9 I) k154 x1 x2 x3 x4 x5 x6 x8 x9 (nI 10) x9 I)) ∧ (x2 = 0 → (wp_X8_who_89 Q (fun x1 x2 x3 x4 x5 x6 x8 x9 I => wp_X8_who_76 Q k154 n x1 x2 x3 x4 x5 x6 x8 x9 I) k154 x1 x2 x3 x4 x5 x6 x8 x9 (nI 6) x9 I)))
set_option maxHeartbeats 4000000 in
set_option maxRecDepth 100000 in
theorem w_X8_who_76 {E : EE} {p : Program} {l : Launch} {e : Env} {s : State} {m : MethodId} {args : Array Value} {below : List Frame} {meth : Method} {c : Code} {Q : Int32 → II → Prop} {k154 : Int32 → II → Prop} (X : CX E p s m args meth c cX8_who 10 (some .int) RX8) (K154 : ∀ (x8 : Int32) (I : II) (H : Heap) (locs : List Loc) (ls : Array Slot), k154 x8 I → PP E s H locs I → lv_has ls 10 [(0, .ref (E.2.1 315)), (8, .int x8)] → W p l e rmX8_who s m args below meth c H locs 0 0 (MQ below (va_Qi Q (BU E) E.2.2.2.1) args s 0 0 E.2.2.2.1) (F0 m 154 ls [])) : ∀ (n : Nat) (x1 : Int32) (x2 : Int32) (x3 : Int32) (x4 : Int32) (x5 : Int32) (x6 : Int32) (x8 : Int32) (x9 : Int32) (I : II) (H : Heap) (locs : List Loc) (ls : Array Slot), wp_X8_who_76 Q k154 n x1 x2 x3 x4 x5 x6 x8 x9 I → PP E s H locs I → lv_has ls 10 [(0, .ref (E.2.1 315)), (1, .int x1), (2, .int x2), (3, .int x3), (4, .int x4), (5, .int x5), (6, .int x6), (8, .int x8), (9, .int x9)] → W p l e rmX8_who s m args below meth c H locs 0 0 (MQ below (va_Qi Q (BU E) E.2.2.2.1) args s 0 0 E.2.2.2.1) (F0 m 76 ls []) := by
  obtain ⟨⟨hx, hb, hml, hown, hts⟩, hr, hlk, hK, hST, hN⟩ := id X
  intro n
  induction n with
  | zero =>
    intro x1 x2 x3 x4 x5 x6 x8 x9 I H locs ls h hp hl
    exact False.elim h
  | succ n ih =>
    intro x1 x2 x3 x4 x5 x6 x8 x9 I H locs ls h hp hl
    rw [wp_X8_who_76.eq_2] at h
    refine lv_iload hx hb dX8_who_76 (lv_at hl 8 rfl) ?_
    refine lv_iload_n hx hb dX8_who_78 rfl (lv_at hl 2 rfl) ?_
    refine lv_if_ne (tgt := 87) hx hb dX8_who_79 (by decide) (fun c1 => ?_) (fun c1 => ?_)
    · have h := h.1 c1
      refine lv_bipush (v := (nI 10)) hx hb dX8_who_87 (by decide) ?_
      exact w_X8_who_89 X ih K154 _ _ _ _ _ _ _ _ _ _ _ _ _ _ h hp (lv_sub hl [0, 1, 2, 3, 4, 5, 6, 7, 8] rfl)
    · have h := h.2 c1
      refine lv_bipush (v := (nI 6)) hx hb dX8_who_82 (by decide) ?_
      refine lv_goto (tgt := 89) hx hb dX8_who_84 (by decide) ?_
      exact w_X8_who_89 X ih K154 _ _ _ _ _ _ _ _ _ _ _ _ _ _ h hp (lv_sub hl [0, 1, 2, 3, 4, 5, 6, 7, 8] rfl)
def wp_X8_who (x1 : Int32) (x2 : Int32) (x3 : Int32) (x4 : Int32) (x5 : Int32) (x6 : Int32) (I : II) (Q : Int32 → II → Prop) : Prop := (wp_X8_isTeller x1 I (fun r2 I1 => ((r2 = 0 → (Q (-nI 1000001) I1)) ∧ (¬ r2 = 0 → (wp_X8_in x2.toInt64 (lN 0) (lN 1) I1 (fun r5 I4 => ((r5 = 0 → (Q (-nI 1000001) I4)) ∧ (¬ r5 = 0 → (wp_X8_isTeller x3 I4 (fun r8 I7 => ((r8 = 0 → (Q (-nI 1000001) I7)) ∧ (¬ r8 = 0 → (wp_X8_isRow x4 I7 (fun r11 I10 => ((r11 = 0 → (Q (-nI 1000001) I10)) ∧ (¬ r11 = 0 → (wp_X8_in x6.toInt64 (lN 1) (lN 12) I10 (fun r14 I13 => ((¬ r14 = 0 → (wp_X8_noItems x4 x5 x6 I13 (fun r17 I16 => ((r17 = 0 → (∃ n71, wp_X8_who_76 Q (fun x8 I => (wp_X8_well x8 I (fun r70 I69 => (Q r70 I69)))) n71 x1 x2 x3 x4 x5 x6 (nI 0) (nI 1) I16)) ∧ (¬ r17 = 0 → (Q r17 I16)))))) ∧ (r14 = 0 → (Q (-nI 1000001) I13)))))))))))))))))))))
set_option maxHeartbeats 4000000 in
set_option maxRecDepth 100000 in
theorem w_X8_who_0 {E : EE} {p : Program} {l : Launch} {e : Env} {s : State} {m : MethodId} {args : Array Value} {below : List Frame} {meth : Method} {c : Code} {Q : Int32 → II → Prop} (X : CX E p s m args meth c cX8_who 10 (some .int) RX8) : ∀ (x1 : Int32) (x2 : Int32) (x3 : Int32) (x4 : Int32) (x5 : Int32) (x6 : Int32) (I : II) (H : Heap) (locs : List Loc) (ls : Array Slot), wp_X8_who x1 x2 x3 x4 x5 x6 I Q → PP E s H locs I → lv_has ls 10 [(0, .ref (E.2.1 315)), (1, .int x1), (2, .int x2), (3, .int x3), (4, .int x4), (5, .int x5), (6, .int x6)] → W p l e rmX8_who s m args below meth c H locs 0 0 (MQ below (va_Qi Q (BU E) E.2.2.2.1) args s 0 0 E.2.2.2.1) (F0 m 0 ls []) := by
  obtain ⟨⟨hx, hb, hml, hown, hts⟩, hr, hlk, hK, hST, hN⟩ := id X
  intro x1 x2 x3 x4 x5 x6 I H locs ls h hp hl
  unfold wp_X8_who at h
  refine lv_aload_n hx hb dX8_who_0 rfl (lv_at hl 0 rfl) ?_
  refine lv_iload_n hx hb dX8_who_1 rfl (lv_at hl 1 rfl) ?_
  refine ki (kV (As := [.int x1]) (rest := []) X hp (C_X8_isTeller  h) tw_ml_X8_175 vf_X8_isTeller ⟨rfl, rfl, Nat.le_of_ble_eq_true rfl, Nat.le_of_ble_eq_true rfl⟩ (pr_rcv X hp (k := 315) (by decide) (ob_315 _) (q := (RX8, TX8, 18)) rfl) rfl hl.1 rfl (Nat.le_of_ble_eq_true rfl) dX8_who_2) hp (fun r2 I1 H locs h hp => ?_)
  refine lv_if_eq (tgt := 47) hx hb dX8_who_5 (by decide) (fun c3 => ?_) (fun c3 => ?_)
  · have h := h.1 c3
    refine lv_ldc (v := (-nI 1000001)) hx hb hown (hts _ tw_k_X8_55) dX8_who_47 ?_
    exact rt_i X hp h dX8_who_49
  · have h := h.2 c3
    refine lv_iload_n hx hb dX8_who_8 rfl (lv_at hl 2 rfl) ?_
    refine lv_i2l (v := x2.toInt64) hx hb dX8_who_9 rfl ?_
    refine lv_lconst (v := (lN 0)) hx hb dX8_who_10 (by decide) ?_
    refine lv_lconst (v := (lN 1)) hx hb dX8_who_11 (by decide) ?_
    refine ki (kS (As := [.long x2.toInt64, .long (lN 0), .long (lN 1)]) (rest := []) X hp (C_X8_in  h) tw_ml_X8_45 sf_X8_in ⟨rfl, rfl, Nat.le_of_ble_eq_true rfl, Nat.le_of_ble_eq_true rfl⟩ rfl hl.1 rfl (Nat.le_of_ble_eq_true rfl) dX8_who_12) hp (fun r5 I4 H locs h hp => ?_)
    refine lv_if_eq (tgt := 47) hx hb dX8_who_15 (by decide) (fun c6 => ?_) (fun c6 => ?_)
    · have h := h.1 c6
      refine lv_ldc (v := (-nI 1000001)) hx hb hown (hts _ tw_k_X8_55) dX8_who_47 ?_
      exact rt_i X hp h dX8_who_49
    · have h := h.2 c6
      refine lv_aload_n hx hb dX8_who_18 rfl (lv_at hl 0 rfl) ?_
      refine lv_iload_n hx hb dX8_who_19 rfl (lv_at hl 3 rfl) ?_
      refine ki (kV (As := [.int x3]) (rest := []) X hp (C_X8_isTeller  h) tw_ml_X8_175 vf_X8_isTeller ⟨rfl, rfl, Nat.le_of_ble_eq_true rfl, Nat.le_of_ble_eq_true rfl⟩ (pr_rcv X hp (k := 315) (by decide) (ob_315 _) (q := (RX8, TX8, 18)) rfl) rfl hl.1 rfl (Nat.le_of_ble_eq_true rfl) dX8_who_20) hp (fun r8 I7 H locs h hp => ?_)
      refine lv_if_eq (tgt := 47) hx hb dX8_who_23 (by decide) (fun c9 => ?_) (fun c9 => ?_)
      · have h := h.1 c9
        refine lv_ldc (v := (-nI 1000001)) hx hb hown (hts _ tw_k_X8_55) dX8_who_47 ?_
        exact rt_i X hp h dX8_who_49
      · have h := h.2 c9
        refine lv_iload hx hb dX8_who_26 (lv_at hl 4 rfl) ?_
        refine ki (kS (As := [.int x4]) (rest := []) X hp (C_X8_isRow  h) tw_ml_X8_49 sf_X8_isRow ⟨rfl, rfl, Nat.le_of_ble_eq_true rfl, Nat.le_of_ble_eq_true rfl⟩ rfl hl.1 rfl (Nat.le_of_ble_eq_true rfl) dX8_who_28) hp (fun r11 I10 H locs h hp => ?_)
        refine lv_if_eq (tgt := 47) hx hb dX8_who_31 (by decide) (fun c12 => ?_) (fun c12 => ?_)
        · have h := h.1 c12
          refine lv_ldc (v := (-nI 1000001)) hx hb hown (hts _ tw_k_X8_55) dX8_who_47 ?_
          exact rt_i X hp h dX8_who_49
        · have h := h.2 c12
          refine lv_iload hx hb dX8_who_34 (lv_at hl 6 rfl) ?_
          refine lv_i2l (v := x6.toInt64) hx hb dX8_who_36 rfl ?_
          refine lv_lconst (v := (lN 1)) hx hb dX8_who_37 (by decide) ?_
          refine lv_ldc2 (v := (lN 12)) hx hb hown (hts _ tw_kl_X8_223) dX8_who_38 ?_
          refine ki (kS (As := [.long x6.toInt64, .long (lN 1), .long (lN 12)]) (rest := []) X hp (C_X8_in  h) tw_ml_X8_45 sf_X8_in ⟨rfl, rfl, Nat.le_of_ble_eq_true rfl, Nat.le_of_ble_eq_true rfl⟩ rfl hl.1 rfl (Nat.le_of_ble_eq_true rfl) dX8_who_41) hp (fun r14 I13 H locs h hp => ?_)
          refine lv_if_ne (tgt := 50) hx hb dX8_who_44 (by decide) (fun c15 => ?_) (fun c15 => ?_)
          · have h := h.1 c15
            refine lv_aload_n hx hb dX8_who_50 rfl (lv_at hl 0 rfl) ?_
            refine lv_iload hx hb dX8_who_51 (lv_at hl 4 rfl) ?_
            refine lv_iload hx hb dX8_who_53 (lv_at hl 5 rfl) ?_
            refine lv_iload hx hb dX8_who_55 (lv_at hl 6 rfl) ?_
            refine ki (kV (As := [.int x4, .int x5, .int x6]) (rest := []) X hp (C_X8_noItems  h) tw_ml_X8_225 vf_X8_noItems ⟨rfl, rfl, Nat.le_of_ble_eq_true rfl, Nat.le_of_ble_eq_true rfl⟩ (pr_rcv X hp (k := 315) (by decide) (ob_315 _) (q := (RX8, TX8, 18)) rfl) rfl hl.1 rfl (Nat.le_of_ble_eq_true rfl) dX8_who_57) hp (fun r17 I16 H locs h hp => ?_)
            refine lv_istore (lv' := [(7, .int r17), (0, .ref (E.2.1 315)), (1, .int x1), (2, .int x2), (3, .int x3), (4, .int x4), (5, .int x5), (6, .int x6)]) hx hb dX8_who_60 hl (by decide) rfl (fun ls hl => ?_)
            refine lv_iload hx hb dX8_who_62 (lv_at hl 0 rfl) ?_
            refine lv_if_eq (tgt := 70) hx hb dX8_who_64 (by decide) (fun c18 => ?_) (fun c18 => ?_)
            · have h := h.1 c18
              refine lv_iconst (v := (nI 0)) hx hb dX8_who_70 (by decide) ?_
              refine lv_istore (lv' := [(8, .int (nI 0)), (7, .int r17), (0, .ref (E.2.1 315)), (1, .int x1), (2, .int x2), (3, .int x3), (4, .int x4), (5, .int x5), (6, .int x6)]) hx hb dX8_who_71 hl (by decide) rfl (fun ls hl => ?_)
              refine lv_iconst (v := (nI 1)) hx hb dX8_who_73 (by decide) ?_
              refine lv_istore (lv' := [(9, .int (nI 1)), (8, .int (nI 0)), (7, .int r17), (0, .ref (E.2.1 315)), (1, .int x1), (2, .int x2), (3, .int x3), (4, .int x4), (5, .int x5), (6, .int x6)]) hx hb dX8_who_74 hl (by decide) rfl (fun ls hl => ?_)
              obtain ⟨n71, h⟩ := h
              refine w_X8_who_76 X ?_ n71 _ _ _ _ _ _ _ _ _ _ _ _ h hp (lv_sub hl [3, 4, 5, 6, 7, 8, 9, 1, 0] rfl)
              · intro x8 I H locs ls h hp hl
                refine lv_aload_n hx hb dX8_who_154 rfl (lv_at hl 0 rfl) ?_
                refine lv_iload hx hb dX8_who_155 (lv_at hl 1 rfl) ?_
                refine ki (kV (As := [.int x8]) (rest := []) X hp (C_X8_well  h) tw_ml_X8_60 vf_X8_well ⟨rfl, rfl, Nat.le_of_ble_eq_true rfl, Nat.le_of_ble_eq_true rfl⟩ (pr_rcv X hp (k := 315) (by decide) (ob_315 _) (q := (RX8, TX8, 18)) rfl) rfl hl.1 rfl (Nat.le_of_ble_eq_true rfl) dX8_who_157) hp (fun r70 I69 H locs h hp => ?_)
                exact rt_i X hp h dX8_who_160
            · have h := h.2 c18
              refine lv_iload hx hb dX8_who_67 (lv_at hl 0 rfl) ?_
              exact rt_i X hp h dX8_who_69
          · have h := h.2 c15
            refine lv_ldc (v := (-nI 1000001)) hx hb hown (hts _ tw_k_X8_55) dX8_who_47 ?_
            exact rt_i X hp h dX8_who_49
set_option maxRecDepth 100000 in
theorem C_X8_who {E : EE} {l : Launch} {x1 : Int32} {x2 : Int32} {x3 : Int32} {x4 : Int32} {x5 : Int32} {x6 : Int32} {I : II} {Q : Int32 → II → Prop} (h : wp_X8_who x1 x2 x3 x4 x5 x6 I Q) : Met l yX8_who (Cond.code yX8_who cX8_who 10 (some .int) :: lwT) rmX8_who (va_Pc [.ref (E.2.1 315), .int x1, .int x2, .int x3, .int x4, .int x5, .int x6] (PU E I)) (va_Qi Q (BU E) E.2.2.2.1) 0 0 E.2.2.2.1 :=
  ofWalk [.ref (E.2.1 315), .int x1, .int x2, .int x3, .int x4, .int x5, .int x6] (by decide) tw_c_X8_who (Nat.le_of_ble_eq_true rfl) (fun p e s m below meth c ls X hp hl => w_X8_who_0 X _ _ _ _ _ _ _ _ _ _ h hp hl)
abbrev rmX8_sums : Room := { frames := 6, cells := 0, slots := 0, locals := 141 }
theorem vf_X8_sums : VF yX8_sums RX8 cX8_sums 8 (some .int) 4 := ⟨tw_in_X8, tw_im_X8_sums, tw_se_X8_sums, tw_c_X8_sums, by decide, by decide, by decide +kernel⟩
def wp_X8_sums_120 (Q : Int32 → II → Prop) (k68 : Int32 → Int32 → Int32 → Int32 → Int32 → Int32 → II → Prop) (x1 : Int32) (x2 : Int32) (x3 : Int32) (x4 : Int32) (x7 : Int32) (v0 : Int32) (v1 : Int32) (I : II) : Prop := (k68 x1 x2 x3 x4 (v1 ||| v0) (x7 + (nI 1)) I)
set_option maxHeartbeats 4000000 in
set_option maxRecDepth 100000 in
theorem w_X8_sums_120 {E : EE} {p : Program} {l : Launch} {e : Env} {s : State} {m : MethodId} {args : Array Value} {below : List Frame} {meth : Method} {c : Code} {Q : Int32 → II → Prop} {k68 : Int32 → Int32 → Int32 → Int32 → Int32 → Int32 → II → Prop} (X : CX E p s m args meth c cX8_sums 8 (some .int) RX8) (K68 : ∀ (x1 : Int32) (x2 : Int32) (x3 : Int32) (x4 : Int32) (x6 : Int32) (x7 : Int32) (I : II) (H : Heap) (locs : List Loc) (ls : Array Slot), k68 x1 x2 x3 x4 x6 x7 I → PP E s H locs I → lv_has ls 8 [(0, .ref (E.2.1 315)), (1, .int x1), (2, .int x2), (3, .int x3), (4, .int x4), (6, .int x6), (7, .int x7)] → W p l e rmX8_sums s m args below meth c H locs 0 0 (MQ below (va_Qi Q (BU E) E.2.2.2.1) args s 0 0 E.2.2.2.1) (F0 m 68 ls [])) : ∀ (x1 : Int32) (x2 : Int32) (x3 : Int32) (x4 : Int32) (x7 : Int32) (v0 : Int32) (v1 : Int32) (I : II) (H : Heap) (locs : List Loc) (ls : Array Slot), wp_X8_sums_120 Q k68 x1 x2 x3 x4 x7 v0 v1 I → PP E s H locs I → lv_has ls 8 [(0, .ref (E.2.1 315)), (1, .int x1), (2, .int x2), (3, .int x3), (4, .int x4), (7, .int x7)] → W p l e rmX8_sums s m args below meth c H locs 0 0 (MQ below (va_Qi Q (BU E) E.2.2.2.1) args s 0 0 E.2.2.2.1) (F0 m 120 ls [.int v0, .int v1]) := by
  obtain ⟨⟨hx, hb, hml, hown, hts⟩, hr, hlk, hK, hST, hN⟩ := id X
  intro x1 x2 x3 x4 x7 v0 v1 I H locs ls h hp hl
  unfold wp_X8_sums_120 at h
  refine lv_ior hx hb dX8_sums_120 ?_
  refine lv_istore (lv' := [(6, .int (v1 ||| v0)), (0, .ref (E.2.1 315)), (1, .int x1), (2, .int x2), (3, .int x3), (4, .int x4), (7, .int x7)]) hx hb dX8_sums_121 hl (by decide) rfl (fun ls hl => ?_)
  refine lv_iinc (v := (x7 + (nI 1))) (lv' := [(7, .int (x7 + (nI 1))), (6, .int (v1 ||| v0)), (0, .ref (E.2.1 315)), (1, .int x1), (2, .int x2), (3, .int x3), (4, .int x4)]) hx hb dX8_sums_123 hl (k := 6) rfl rfl (by decide) rfl (fun ls hl => ?_)
  refine lv_goto (tgt := 68) hx hb dX8_sums_126 (by decide) ?_
  exact K68 _ _ _ _ _ _ _ _ _ _ h hp (lv_sub hl [2, 3, 4, 5, 6, 1, 0] rfl)
def wp_X8_sums_68 (Q : Int32 → II → Prop) (k129 : Int32 → II → Prop) : Nat → Int32 → Int32 → Int32 → Int32 → Int32 → Int32 → II → Prop
  | 0, _, _, _, _, _, _, _ => False
  | n + 1, x1, x2, x3, x4, x6, x7, I => (((nI 31) ≤ x7 → (k129 x6 I)) ∧ (¬ (nI 31) ≤ x7 → (wp_X8_layTried (nI 0) I (fun I2 => (vp_in (nI 8) 1372 ∧ (vp_in ((nI 1338) + (I2 316 (nI 8).toNatClampNeg)) 1372 ∧ ∀ I6 : II, I6 = su I2 316 ((nI 1338) + (I2 316 (nI 8).toNatClampNeg)).toNatClampNeg x7 → (wp_X8_isSo x1 x2 x3 x4 I6 (fun r9 I8 => ((r9 = 0 → (wp_X8_sums_120 Q (fun x1 x2 x3 x4 x6 x7 I => wp_X8_sums_68 Q k129 n x1 x2 x3 x4 x6 x7 I) x1 x2 x3 x4 x7 (nI 0) x6 I8)) ∧ (¬ r9 = 0 → (wp_X8_sums_120 Q (fun x1 x2 x3 x4 x6 x7 I => wp_X8_sums_68 Q k129 n x1 x2 x3 x4 x6 x7 I) x1 x2 x3 x4 x7 ((nI 1) <<< (x7 &&& 31)) x6 I8)))))))))))
set_option maxHeartbeats 4000000 in
set_option maxRecDepth 100000 in
theorem w_X8_sums_68 {E : EE} {p : Program} {l : Launch} {e : Env} {s : State} {m : MethodId} {args : Array Value} {below : List Frame} {meth : Method} {c : Code} {Q : Int32 → II → Prop} {k129 : Int32 → II → Prop} (X : CX E p s m args meth c cX8_sums 8 (some .int) RX8) (K129 : ∀ (x6 : Int32) (I : II) (H : Heap) (locs : List Loc) (ls : Array Slot), k129 x6 I → PP E s H locs I → lv_has ls 8 [(0, .ref (E.2.1 315)), (6, .int x6)] → W p l e rmX8_sums s m args below meth c H locs 0 0 (MQ below (va_Qi Q (BU E) E.2.2.2.1) args s 0 0 E.2.2.2.1) (F0 m 129 ls [])) : ∀ (n : Nat) (x1 : Int32) (x2 : Int32) (x3 : Int32) (x4 : Int32) (x6 : Int32) (x7 : Int32) (I : II) (H : Heap) (locs : List Loc) (ls : Array Slot), wp_X8_sums_68 Q k129 n x1 x2 x3 x4 x6 x7 I → PP E s H locs I → lv_has ls 8 [(0, .ref (E.2.1 315)), (1, .int x1), (2, .int x2), (3, .int x3), (4, .int x4), (6, .int x6), (7, .int x7)] → W p l e rmX8_sums s m args below meth c H locs 0 0 (MQ below (va_Qi Q (BU E) E.2.2.2.1) args s 0 0 E.2.2.2.1) (F0 m 68 ls []) := by
  obtain ⟨⟨hx, hb, hml, hown, hts⟩, hr, hlk, hK, hST, hN⟩ := id X
  intro n
  induction n with
  | zero =>
    intro x1 x2 x3 x4 x6 x7 I H locs ls h hp hl
    exact False.elim h
  | succ n ih =>
    intro x1 x2 x3 x4 x6 x7 I H locs ls h hp hl
    rw [wp_X8_sums_68.eq_2] at h
    refine lv_iload hx hb dX8_sums_68 (lv_at hl 6 rfl) ?_
    refine lv_bipush (v := (nI 31)) hx hb dX8_sums_70 (by decide) ?_
    refine lv_icmp_ge (tgt := 129) hx hb dX8_sums_72 (by decide) (fun c1 => ?_) (fun c1 => ?_)
    · have h := h.1 c1
      exact K129 _ _ _ _ _ h hp (lv_sub hl [0, 5] rfl)
    · have h := h.2 c1
      refine lv_aload_n hx hb dX8_sums_75 rfl (lv_at hl 0 rfl) ?_
      refine lv_iconst (v := (nI 0)) hx hb dX8_sums_76 (by decide) ?_
      refine kv (kV (As := [.int (nI 0)]) (rest := []) X hp (C_X8_layTried  h) tw_ml_X8_199 vf_X8_layTried ⟨rfl, rfl, Nat.le_of_ble_eq_true rfl, Nat.le_of_ble_eq_true rfl⟩ (pr_rcv X hp (k := 315) (by decide) (ob_315 _) (q := (RX8, TX8, 18)) rfl) rfl hl.1 rfl (Nat.le_of_ble_eq_true rfl) dX8_sums_77) hp (fun I2 H locs h hp => ?_)
      refine lv_aload_n hx hb dX8_sums_80 rfl (lv_at hl 0 rfl) ?_
      refine f_X8_7 X hp dX8_sums_81 ?_
      refine lv_sipush (v := (nI 1338)) hx hb dX8_sums_84 (by decide) ?_
      refine lv_aload_n hx hb dX8_sums_87 rfl (lv_at hl 0 rfl) ?_
      refine f_X8_7 X hp dX8_sums_88 ?_
      refine lv_bipush (v := (nI 8)) hx hb dX8_sums_91 (by decide) ?_
      have hv4 := h.1
      have h := h.2
      refine al_i X hp ar_s316 hv4 dX8_sums_93 ?_
      refine lv_iadd hx hb dX8_sums_94 ?_
      refine lv_iload hx hb dX8_sums_95 (lv_at hl 6 rfl) ?_
      have hv5 := h.1
      have h := h.2
      refine as_i X hp ar_s316 hv5 dX8_sums_97 (fun H locs hp => ?_)
      obtain ⟨I6, e7⟩ : ∃ y, y = su I2 316 ((nI 1338) + (I2 316 (nI 8).toNatClampNeg)).toNatClampNeg x7 := ⟨_, rfl⟩
      have hp : PP E s H locs I6 := by rw [e7]; exact hp
      have h := h I6 e7
      refine lv_iload hx hb dX8_sums_98 (lv_at hl 5 rfl) ?_
      refine lv_aload_n hx hb dX8_sums_100 rfl (lv_at hl 0 rfl) ?_
      refine lv_iload_n hx hb dX8_sums_101 rfl (lv_at hl 1 rfl) ?_
      refine lv_iload_n hx hb dX8_sums_102 rfl (lv_at hl 2 rfl) ?_
      refine lv_iload_n hx hb dX8_sums_103 rfl (lv_at hl 3 rfl) ?_
      refine lv_iload hx hb dX8_sums_104 (lv_at hl 4 rfl) ?_
      refine ki (kV (As := [.int x1, .int x2, .int x3, .int x4]) (rest := [.int x6]) X hp (C_X8_isSo  h) tw_ml_X8_228 vf_X8_isSo ⟨rfl, rfl, Nat.le_of_ble_eq_true rfl, Nat.le_of_ble_eq_true rfl⟩ (pr_rcv X hp (k := 315) (by decide) (ob_315 _) (q := (RX8, TX8, 18)) rfl) rfl hl.1 rfl (Nat.le_of_ble_eq_true rfl) dX8_sums_106) hp (fun r9 I8 H locs h hp => ?_)
      refine lv_if_eq (tgt := 119) hx hb dX8_sums_109 (by decide) (fun c10 => ?_) (fun c10 => ?_)
      · have h := h.1 c10
        refine lv_iconst (v := (nI 0)) hx hb dX8_sums_119 (by decide) ?_
        exact w_X8_sums_120 X ih _ _ _ _ _ _ _ _ _ _ _ h hp (lv_sub hl [0, 1, 2, 3, 4, 6] rfl)
      · have h := h.2 c10
        refine lv_iconst (v := (nI 1)) hx hb dX8_sums_112 (by decide) ?_
        refine lv_iload hx hb dX8_sums_113 (lv_at hl 6 rfl) ?_
        refine lv_ishl hx hb dX8_sums_115 ?_
        refine lv_goto (tgt := 120) hx hb dX8_sums_116 (by decide) ?_
        exact w_X8_sums_120 X ih _ _ _ _ _ _ _ _ _ _ _ h hp (lv_sub hl [0, 1, 2, 3, 4, 6] rfl)
def wp_X8_sums (x1 : Int32) (x2 : Int32) (x3 : Int32) (x4 : Int32) (I : II) (Q : Int32 → II → Prop) : Prop := (wp_X8_isTeller x1 I (fun r2 I1 => ((r2 = 0 → (Q (-nI 1000001) I1)) ∧ (¬ r2 = 0 → (wp_X8_isRow x2 I1 (fun r5 I4 => ((r5 = 0 → (Q (-nI 1000001) I4)) ∧ (¬ r5 = 0 → (wp_X8_in x4.toInt64 (lN 1) (lN 12) I4 (fun r8 I7 => ((¬ r8 = 0 → (vp_in (nI 7) 1372 ∧ ((¬ (I7 316 (nI 7).toNatClampNeg) = 0 → (wp_X8_noItems x2 x3 x4 I7 (fun r13 I12 => ((r13 = 0 → (∃ n67, wp_X8_sums_68 Q (fun x6 I => (wp_X8_well x6 I (fun r66 I65 => (Q r66 I65)))) n67 x1 x2 x3 x4 (nI 0) (nI 1) I12)) ∧ (¬ r13 = 0 → (Q r13 I12)))))) ∧ ((I7 316 (nI 7).toNatClampNeg) = 0 → (Q (-nI 1000002) I7))))) ∧ (r8 = 0 → (Q (-nI 1000001) I7)))))))))))))
set_option maxHeartbeats 4000000 in
set_option maxRecDepth 100000 in
theorem w_X8_sums_0 {E : EE} {p : Program} {l : Launch} {e : Env} {s : State} {m : MethodId} {args : Array Value} {below : List Frame} {meth : Method} {c : Code} {Q : Int32 → II → Prop} (X : CX E p s m args meth c cX8_sums 8 (some .int) RX8) : ∀ (x1 : Int32) (x2 : Int32) (x3 : Int32) (x4 : Int32) (I : II) (H : Heap) (locs : List Loc) (ls : Array Slot), wp_X8_sums x1 x2 x3 x4 I Q → PP E s H locs I → lv_has ls 8 [(0, .ref (E.2.1 315)), (1, .int x1), (2, .int x2), (3, .int x3), (4, .int x4)] → W p l e rmX8_sums s m args below meth c H locs 0 0 (MQ below (va_Qi Q (BU E) E.2.2.2.1) args s 0 0 E.2.2.2.1) (F0 m 0 ls []) := by
  obtain ⟨⟨hx, hb, hml, hown, hts⟩, hr, hlk, hK, hST, hN⟩ := id X
  intro x1 x2 x3 x4 I H locs ls h hp hl
  unfold wp_X8_sums at h
  refine lv_aload_n hx hb dX8_sums_0 rfl (lv_at hl 0 rfl) ?_
  refine lv_iload_n hx hb dX8_sums_1 rfl (lv_at hl 1 rfl) ?_
  refine ki (kV (As := [.int x1]) (rest := []) X hp (C_X8_isTeller  h) tw_ml_X8_175 vf_X8_isTeller ⟨rfl, rfl, Nat.le_of_ble_eq_true rfl, Nat.le_of_ble_eq_true rfl⟩ (pr_rcv X hp (k := 315) (by decide) (ob_315 _) (q := (RX8, TX8, 18)) rfl) rfl hl.1 rfl (Nat.le_of_ble_eq_true rfl) dX8_sums_2) hp (fun r2 I1 H locs h hp => ?_)
  refine lv_if_eq (tgt := 28) hx hb dX8_sums_5 (by decide) (fun c3 => ?_) (fun c3 => ?_)
  · have h := h.1 c3
    refine lv_ldc (v := (-nI 1000001)) hx hb hown (hts _ tw_k_X8_55) dX8_sums_28 ?_
    exact rt_i X hp h dX8_sums_30
  · have h := h.2 c3
    refine lv_iload_n hx hb dX8_sums_8 rfl (lv_at hl 2 rfl) ?_
    refine ki (kS (As := [.int x2]) (rest := []) X hp (C_X8_isRow  h) tw_ml_X8_49 sf_X8_isRow ⟨rfl, rfl, Nat.le_of_ble_eq_true rfl, Nat.le_of_ble_eq_true rfl⟩ rfl hl.1 rfl (Nat.le_of_ble_eq_true rfl) dX8_sums_9) hp (fun r5 I4 H locs h hp => ?_)
    refine lv_if_eq (tgt := 28) hx hb dX8_sums_12 (by decide) (fun c6 => ?_) (fun c6 => ?_)
    · have h := h.1 c6
      refine lv_ldc (v := (-nI 1000001)) hx hb hown (hts _ tw_k_X8_55) dX8_sums_28 ?_
      exact rt_i X hp h dX8_sums_30
    · have h := h.2 c6
      refine lv_iload hx hb dX8_sums_15 (lv_at hl 4 rfl) ?_
      refine lv_i2l (v := x4.toInt64) hx hb dX8_sums_17 rfl ?_
      refine lv_lconst (v := (lN 1)) hx hb dX8_sums_18 (by decide) ?_
      refine lv_ldc2 (v := (lN 12)) hx hb hown (hts _ tw_kl_X8_223) dX8_sums_19 ?_
      refine ki (kS (As := [.long x4.toInt64, .long (lN 1), .long (lN 12)]) (rest := []) X hp (C_X8_in  h) tw_ml_X8_45 sf_X8_in ⟨rfl, rfl, Nat.le_of_ble_eq_true rfl, Nat.le_of_ble_eq_true rfl⟩ rfl hl.1 rfl (Nat.le_of_ble_eq_true rfl) dX8_sums_22) hp (fun r8 I7 H locs h hp => ?_)
      refine lv_if_ne (tgt := 31) hx hb dX8_sums_25 (by decide) (fun c9 => ?_) (fun c9 => ?_)
      · have h := h.1 c9
        refine lv_aload_n hx hb dX8_sums_31 rfl (lv_at hl 0 rfl) ?_
        refine f_X8_7 X hp dX8_sums_32 ?_
        refine lv_bipush (v := (nI 7)) hx hb dX8_sums_35 (by decide) ?_
        have hv10 := h.1
        have h := h.2
        refine al_i X hp ar_s316 hv10 dX8_sums_37 ?_
        refine lv_if_ne (tgt := 44) hx hb dX8_sums_38 (by decide) (fun c11 => ?_) (fun c11 => ?_)
        · have h := h.1 c11
          refine lv_aload_n hx hb dX8_sums_44 rfl (lv_at hl 0 rfl) ?_
          refine lv_iload_n hx hb dX8_sums_45 rfl (lv_at hl 2 rfl) ?_
          refine lv_iload_n hx hb dX8_sums_46 rfl (lv_at hl 3 rfl) ?_
          refine lv_iload hx hb dX8_sums_47 (lv_at hl 4 rfl) ?_
          refine ki (kV (As := [.int x2, .int x3, .int x4]) (rest := []) X hp (C_X8_noItems  h) tw_ml_X8_225 vf_X8_noItems ⟨rfl, rfl, Nat.le_of_ble_eq_true rfl, Nat.le_of_ble_eq_true rfl⟩ (pr_rcv X hp (k := 315) (by decide) (ob_315 _) (q := (RX8, TX8, 18)) rfl) rfl hl.1 rfl (Nat.le_of_ble_eq_true rfl) dX8_sums_49) hp (fun r13 I12 H locs h hp => ?_)
          refine lv_istore (lv' := [(5, .int r13), (0, .ref (E.2.1 315)), (1, .int x1), (2, .int x2), (3, .int x3), (4, .int x4)]) hx hb dX8_sums_52 hl (by decide) rfl (fun ls hl => ?_)
          refine lv_iload hx hb dX8_sums_54 (lv_at hl 0 rfl) ?_
          refine lv_if_eq (tgt := 62) hx hb dX8_sums_56 (by decide) (fun c14 => ?_) (fun c14 => ?_)
          · have h := h.1 c14
            refine lv_iconst (v := (nI 0)) hx hb dX8_sums_62 (by decide) ?_
            refine lv_istore (lv' := [(6, .int (nI 0)), (5, .int r13), (0, .ref (E.2.1 315)), (1, .int x1), (2, .int x2), (3, .int x3), (4, .int x4)]) hx hb dX8_sums_63 hl (by decide) rfl (fun ls hl => ?_)
            refine lv_iconst (v := (nI 1)) hx hb dX8_sums_65 (by decide) ?_
            refine lv_istore (lv' := [(7, .int (nI 1)), (6, .int (nI 0)), (5, .int r13), (0, .ref (E.2.1 315)), (1, .int x1), (2, .int x2), (3, .int x3), (4, .int x4)]) hx hb dX8_sums_66 hl (by decide) rfl (fun ls hl => ?_)
            obtain ⟨n67, h⟩ := h
            refine w_X8_sums_68 X ?_ n67 _ _ _ _ _ _ _ _ _ _ h hp (lv_sub hl [3, 4, 5, 6, 7, 1, 0] rfl)
            · intro x6 I H locs ls h hp hl
              refine lv_aload_n hx hb dX8_sums_129 rfl (lv_at hl 0 rfl) ?_
              refine lv_iload hx hb dX8_sums_130 (lv_at hl 1 rfl) ?_
              refine ki (kV (As := [.int x6]) (rest := []) X hp (C_X8_well  h) tw_ml_X8_60 vf_X8_well ⟨rfl, rfl, Nat.le_of_ble_eq_true rfl, Nat.le_of_ble_eq_true rfl⟩ (pr_rcv X hp (k := 315) (by decide) (ob_315 _) (q := (RX8, TX8, 18)) rfl) rfl hl.1 rfl (Nat.le_of_ble_eq_true rfl) dX8_sums_132) hp (fun r66 I65 H locs h hp => ?_)
              exact rt_i X hp h dX8_sums_135
          · have h := h.2 c14
            refine lv_iload hx hb dX8_sums_59 (lv_at hl 0 rfl) ?_
            exact rt_i X hp h dX8_sums_61
        · have h := h.2 c11
          refine lv_ldc (v := (-nI 1000002)) hx hb hown (hts _ tw_k_X8_144) dX8_sums_41 ?_
          exact rt_i X hp h dX8_sums_43
      · have h := h.2 c9
        refine lv_ldc (v := (-nI 1000001)) hx hb hown (hts _ tw_k_X8_55) dX8_sums_28 ?_
        exact rt_i X hp h dX8_sums_30
set_option maxRecDepth 100000 in
theorem C_X8_sums {E : EE} {l : Launch} {x1 : Int32} {x2 : Int32} {x3 : Int32} {x4 : Int32} {I : II} {Q : Int32 → II → Prop} (h : wp_X8_sums x1 x2 x3 x4 I Q) : Met l yX8_sums (Cond.code yX8_sums cX8_sums 8 (some .int) :: lwT) rmX8_sums (va_Pc [.ref (E.2.1 315), .int x1, .int x2, .int x3, .int x4] (PU E I)) (va_Qi Q (BU E) E.2.2.2.1) 0 0 E.2.2.2.1 :=
  ofWalk [.ref (E.2.1 315), .int x1, .int x2, .int x3, .int x4] (by decide) tw_c_X8_sums (Nat.le_of_ble_eq_true rfl) (fun p e s m below meth c ls X hp hl => w_X8_sums_0 X _ _ _ _ _ _ _ _ h hp hl)
abbrev rmX8_leaveOut : Room := { frames := 6, cells := 0, slots := 0, locals := 141 }
theorem vf_X8_leaveOut : VF yX8_leaveOut RX8 cX8_leaveOut 4 none 1 := ⟨tw_in_X8, tw_im_X8_leaveOut, tw_se_X8_leaveOut, tw_c_X8_leaveOut, by decide, by decide, by decide +kernel⟩
def wp_X8_leaveOut_58 (Q : II → Prop) (k9 : Int32 → Int32 → Int32 → II → Prop) (x1 : Int32) (x2 : Int32) (x3 : Int32) (I : II) : Prop := (k9 x1 x2 (x3 + (nI 1)) I)
set_option maxHeartbeats 4000000 in
set_option maxRecDepth 100000 in
theorem w_X8_leaveOut_58 {E : EE} {p : Program} {l : Launch} {e : Env} {s : State} {m : MethodId} {args : Array Value} {below : List Frame} {meth : Method} {c : Code} {Q : II → Prop} {k9 : Int32 → Int32 → Int32 → II → Prop} (X : CX E p s m args meth c cX8_leaveOut 4 none RX8) (K9 : ∀ (x1 : Int32) (x2 : Int32) (x3 : Int32) (I : II) (H : Heap) (locs : List Loc) (ls : Array Slot), k9 x1 x2 x3 I → PP E s H locs I → lv_has ls 4 [(0, .ref (E.2.1 315)), (1, .int x1), (2, .int x2), (3, .int x3)] → W p l e rmX8_leaveOut s m args below meth c H locs 0 0 (MQ below (va_Qv Q (BU E) E.2.2.2.1) args s 0 0 E.2.2.2.1) (F0 m 9 ls [])) : ∀ (x1 : Int32) (x2 : Int32) (x3 : Int32) (I : II) (H : Heap) (locs : List Loc) (ls : Array Slot), wp_X8_leaveOut_58 Q k9 x1 x2 x3 I → PP E s H locs I → lv_has ls 4 [(0, .ref (E.2.1 315)), (1, .int x1), (2, .int x2), (3, .int x3)] → W p l e rmX8_leaveOut s m args below meth c H locs 0 0 (MQ below (va_Qv Q (BU E) E.2.2.2.1) args s 0 0 E.2.2.2.1) (F0 m 58 ls []) := by
  obtain ⟨⟨hx, hb, hml, hown, hts⟩, hr, hlk, hK, hST, hN⟩ := id X
  intro x1 x2 x3 I H locs ls h hp hl
  unfold wp_X8_leaveOut_58 at h
  refine lv_iinc (v := (x3 + (nI 1))) (lv' := [(3, .int (x3 + (nI 1))), (0, .ref (E.2.1 315)), (1, .int x1), (2, .int x2)]) hx hb dX8_leaveOut_58 hl (k := 3) rfl rfl (by decide) rfl (fun ls hl => ?_)
  refine lv_goto (tgt := 9) hx hb dX8_leaveOut_61 (by decide) ?_
  exact K9 _ _ _ _ _ _ _ h hp (lv_sub hl [1, 2, 3, 0] rfl)
def wp_X8_leaveOut_9 (Q : II → Prop) (k64 : Int32 → II → Prop) : Nat → Int32 → Int32 → Int32 → II → Prop
  | 0, _, _, _, _ => False
  | n + 1, x1, x2, x3, I => (vp_in (nI 7) 1372 ∧ (((I 316 (nI 7).toNatClampNeg) ≤ x3 → (k64 x2 I)) ∧ (¬ (I 316 (nI 7).toNatClampNeg) ≤ x3 → (vp_in ((nI 8) + x3) 1372 ∧ (wp_X8_has x1 (I 316 ((nI 8) + x3).toNatClampNeg) I (fun r5 I4 => ((¬ r5 = 0 → (wp_X8_leaveOut_58 Q (fun x1 x2 x3 I => wp_X8_leaveOut_9 Q k64 n x1 x2 x3 I) x1 x2 x3 I4)) ∧ (r5 = 0 → (vp_in ((nI 8) + x3) 1372 ∧ (vp_in ((nI 1331) + x2) 1372 ∧ ∀ I9 : II, I9 = su I4 316 ((nI 1331) + x2).toNatClampNeg (I4 316 ((nI 8) + x3).toNatClampNeg) → (wp_X8_leaveOut_58 Q (fun x1 x2 x3 I => wp_X8_leaveOut_9 Q k64 n x1 x2 x3 I) x1 (x2 + (nI 1)) x3 I9)))))))))))
set_option maxHeartbeats 4000000 in
set_option maxRecDepth 100000 in
theorem w_X8_leaveOut_9 {E : EE} {p : Program} {l : Launch} {e : Env} {s : State} {m : MethodId} {args : Array Value} {below : List Frame} {meth : Method} {c : Code} {Q : II → Prop} {k64 : Int32 → II → Prop} (X : CX E p s m args meth c cX8_leaveOut 4 none RX8) (K64 : ∀ (x2 : Int32) (I : II) (H : Heap) (locs : List Loc) (ls : Array Slot), k64 x2 I → PP E s H locs I → lv_has ls 4 [(0, .ref (E.2.1 315)), (2, .int x2)] → W p l e rmX8_leaveOut s m args below meth c H locs 0 0 (MQ below (va_Qv Q (BU E) E.2.2.2.1) args s 0 0 E.2.2.2.1) (F0 m 64 ls [])) : ∀ (n : Nat) (x1 : Int32) (x2 : Int32) (x3 : Int32) (I : II) (H : Heap) (locs : List Loc) (ls : Array Slot), wp_X8_leaveOut_9 Q k64 n x1 x2 x3 I → PP E s H locs I → lv_has ls 4 [(0, .ref (E.2.1 315)), (1, .int x1), (2, .int x2), (3, .int x3)] → W p l e rmX8_leaveOut s m args below meth c H locs 0 0 (MQ below (va_Qv Q (BU E) E.2.2.2.1) args s 0 0 E.2.2.2.1) (F0 m 9 ls []) := by
  obtain ⟨⟨hx, hb, hml, hown, hts⟩, hr, hlk, hK, hST, hN⟩ := id X
  intro n
  induction n with
  | zero =>
    intro x1 x2 x3 I H locs ls h hp hl
    exact False.elim h
  | succ n ih =>
    intro x1 x2 x3 I H locs ls h hp hl
    rw [wp_X8_leaveOut_9.eq_2] at h
    refine lv_iload_n hx hb dX8_leaveOut_9 rfl (lv_at hl 3 rfl) ?_
    refine lv_aload_n hx hb dX8_leaveOut_10 rfl (lv_at hl 0 rfl) ?_
    refine f_X8_7 X hp dX8_leaveOut_11 ?_
    refine lv_bipush (v := (nI 7)) hx hb dX8_leaveOut_14 (by decide) ?_
    have hv1 := h.1
    have h := h.2
    refine al_i X hp ar_s316 hv1 dX8_leaveOut_16 ?_
    refine lv_icmp_ge (tgt := 64) hx hb dX8_leaveOut_17 (by decide) (fun c2 => ?_) (fun c2 => ?_)
    · have h := h.1 c2
      exact K64 _ _ _ _ _ h hp (lv_sub hl [0, 2] rfl)
    · have h := h.2 c2
      refine lv_iload_n hx hb dX8_leaveOut_20 rfl (lv_at hl 1 rfl) ?_
      refine lv_aload_n hx hb dX8_leaveOut_21 rfl (lv_at hl 0 rfl) ?_
      refine f_X8_7 X hp dX8_leaveOut_22 ?_
      refine lv_bipush (v := (nI 8)) hx hb dX8_leaveOut_25 (by decide) ?_
      refine lv_iload_n hx hb dX8_leaveOut_27 rfl (lv_at hl 3 rfl) ?_
      refine lv_iadd hx hb dX8_leaveOut_28 ?_
      have hv3 := h.1
      have h := h.2
      refine al_i X hp ar_s316 hv3 dX8_leaveOut_29 ?_
      refine ki (kS (As := [.int x1, .int (I 316 ((nI 8) + x3).toNatClampNeg)]) (rest := []) X hp (C_X8_has  h) tw_ml_X8_150 sf_X8_has ⟨rfl, rfl, Nat.le_of_ble_eq_true rfl, Nat.le_of_ble_eq_true rfl⟩ rfl hl.1 rfl (Nat.le_of_ble_eq_true rfl) dX8_leaveOut_30) hp (fun r5 I4 H locs h hp => ?_)
      refine lv_if_ne (tgt := 58) hx hb dX8_leaveOut_33 (by decide) (fun c6 => ?_) (fun c6 => ?_)
      · have h := h.1 c6
        exact w_X8_leaveOut_58 X ih _ _ _ _ _ _ _ h hp (lv_sub hl [0, 1, 2, 3] rfl)
      · have h := h.2 c6
        refine lv_aload_n hx hb dX8_leaveOut_36 rfl (lv_at hl 0 rfl) ?_
        refine f_X8_7 X hp dX8_leaveOut_37 ?_
        refine lv_sipush (v := (nI 1331)) hx hb dX8_leaveOut_40 (by decide) ?_
        refine lv_iload_n hx hb dX8_leaveOut_43 rfl (lv_at hl 2 rfl) ?_
        refine lv_iadd hx hb dX8_leaveOut_44 ?_
        refine lv_aload_n hx hb dX8_leaveOut_45 rfl (lv_at hl 0 rfl) ?_
        refine f_X8_7 X hp dX8_leaveOut_46 ?_
        refine lv_bipush (v := (nI 8)) hx hb dX8_leaveOut_49 (by decide) ?_
        refine lv_iload_n hx hb dX8_leaveOut_51 rfl (lv_at hl 3 rfl) ?_
        refine lv_iadd hx hb dX8_leaveOut_52 ?_
        have hv7 := h.1
        have h := h.2
        refine al_i X hp ar_s316 hv7 dX8_leaveOut_53 ?_
        have hv8 := h.1
        have h := h.2
        refine as_i X hp ar_s316 hv8 dX8_leaveOut_54 (fun H locs hp => ?_)
        obtain ⟨I9, e10⟩ : ∃ y, y = su I4 316 ((nI 1331) + x2).toNatClampNeg (I4 316 ((nI 8) + x3).toNatClampNeg) := ⟨_, rfl⟩
        have hp : PP E s H locs I9 := by rw [e10]; exact hp
        have h := h I9 e10
        refine lv_iinc (v := (x2 + (nI 1))) (lv' := [(2, .int (x2 + (nI 1))), (0, .ref (E.2.1 315)), (1, .int x1), (3, .int x3)]) hx hb dX8_leaveOut_55 hl (k := 2) rfl rfl (by decide) rfl (fun ls hl => ?_)
        exact w_X8_leaveOut_58 X ih _ _ _ _ _ _ _ h hp (lv_sub hl [1, 2, 0, 3] rfl)
def wp_X8_leaveOut (x1 : Int32) (I : II) (Q : II → Prop) : Prop := (wp_X8_layTried (nI 0) I (fun I1 => (∃ n56, wp_X8_leaveOut_9 Q (fun x2 I => (vp_in (nI 1330) 1372 ∧ ∀ I54 : II, I54 = su I 316 (nI 1330).toNatClampNeg x2 → (Q I54))) n56 x1 (nI 0) (nI 0) I1)))
set_option maxHeartbeats 4000000 in
set_option maxRecDepth 100000 in
theorem w_X8_leaveOut_0 {E : EE} {p : Program} {l : Launch} {e : Env} {s : State} {m : MethodId} {args : Array Value} {below : List Frame} {meth : Method} {c : Code} {Q : II → Prop} (X : CX E p s m args meth c cX8_leaveOut 4 none RX8) : ∀ (x1 : Int32) (I : II) (H : Heap) (locs : List Loc) (ls : Array Slot), wp_X8_leaveOut x1 I Q → PP E s H locs I → lv_has ls 4 [(0, .ref (E.2.1 315)), (1, .int x1)] → W p l e rmX8_leaveOut s m args below meth c H locs 0 0 (MQ below (va_Qv Q (BU E) E.2.2.2.1) args s 0 0 E.2.2.2.1) (F0 m 0 ls []) := by
  obtain ⟨⟨hx, hb, hml, hown, hts⟩, hr, hlk, hK, hST, hN⟩ := id X
  intro x1 I H locs ls h hp hl
  unfold wp_X8_leaveOut at h
  refine lv_aload_n hx hb dX8_leaveOut_0 rfl (lv_at hl 0 rfl) ?_
  refine lv_iconst (v := (nI 0)) hx hb dX8_leaveOut_1 (by decide) ?_
  refine kv (kV (As := [.int (nI 0)]) (rest := []) X hp (C_X8_layTried  h) tw_ml_X8_199 vf_X8_layTried ⟨rfl, rfl, Nat.le_of_ble_eq_true rfl, Nat.le_of_ble_eq_true rfl⟩ (pr_rcv X hp (k := 315) (by decide) (ob_315 _) (q := (RX8, TX8, 18)) rfl) rfl hl.1 rfl (Nat.le_of_ble_eq_true rfl) dX8_leaveOut_2) hp (fun I1 H locs h hp => ?_)
  refine lv_iconst (v := (nI 0)) hx hb dX8_leaveOut_5 (by decide) ?_
  refine lv_istore_n (lv' := [(2, .int (nI 0)), (0, .ref (E.2.1 315)), (1, .int x1)]) hx hb dX8_leaveOut_6 rfl hl (by decide) rfl (fun ls hl => ?_)
  refine lv_iconst (v := (nI 0)) hx hb dX8_leaveOut_7 (by decide) ?_
  refine lv_istore_n (lv' := [(3, .int (nI 0)), (2, .int (nI 0)), (0, .ref (E.2.1 315)), (1, .int x1)]) hx hb dX8_leaveOut_8 rfl hl (by decide) rfl (fun ls hl => ?_)
  obtain ⟨n56, h⟩ := h
  refine w_X8_leaveOut_9 X ?_ n56 _ _ _ _ _ _ _ h hp (lv_sub hl [2, 3, 1, 0] rfl)
  · intro x2 I H locs ls h hp hl
    refine lv_aload_n hx hb dX8_leaveOut_64 rfl (lv_at hl 0 rfl) ?_
    refine f_X8_7 X hp dX8_leaveOut_65 ?_
    refine lv_sipush (v := (nI 1330)) hx hb dX8_leaveOut_68 (by decide) ?_
    refine lv_iload_n hx hb dX8_leaveOut_71 rfl (lv_at hl 1 rfl) ?_
    have hv53 := h.1
    have h := h.2
    refine as_i X hp ar_s316 hv53 dX8_leaveOut_72 (fun H locs hp => ?_)
    obtain ⟨I54, e55⟩ : ∃ y, y = su I 316 (nI 1330).toNatClampNeg x2 := ⟨_, rfl⟩
    have hp : PP E s H locs I54 := by rw [e55]; exact hp
    have h := h I54 e55
    exact rt_v X hp h dX8_leaveOut_73
set_option maxRecDepth 100000 in
theorem C_X8_leaveOut {E : EE} {l : Launch} {x1 : Int32} {I : II} {Q : II → Prop} (h : wp_X8_leaveOut x1 I Q) : Met l yX8_leaveOut (Cond.code yX8_leaveOut cX8_leaveOut 4 none :: lwT) rmX8_leaveOut (va_Pc [.ref (E.2.1 315), .int x1] (PU E I)) (va_Qv Q (BU E) E.2.2.2.1) 0 0 E.2.2.2.1 :=
  ofWalk [.ref (E.2.1 315), .int x1] (by decide) tw_c_X8_leaveOut (Nat.le_of_ble_eq_true rfl) (fun p e s m below meth c ls X hp hl => w_X8_leaveOut_0 X _ _ _ _ _ h hp hl)
abbrev rmX8_stayed : Room := { frames := 7, cells := 0, slots := 0, locals := 164 }
theorem vf_X8_stayed : VF yX8_stayed RX8 cX8_stayed 9 (some .int) 4 := ⟨tw_in_X8, tw_im_X8_stayed, tw_se_X8_stayed, tw_c_X8_stayed, by decide, by decide, by decide +kernel⟩
def wp_X8_stayed_121 (Q : Int32 → II → Prop) (k55 : Int32 → Int32 → Int32 → Int32 → Int32 → Int32 → II → Prop) (x1 : Int32) (x2 : Int32) (x3 : Int32) (x4 : Int32) (x7 : Int32) (v0 : Int32) (v1 : Int32) (I : II) : Prop := (k55 x1 x2 x3 x4 (v1 ||| v0) (x7 + (nI 1)) I)
set_option maxHeartbeats 4000000 in
set_option maxRecDepth 100000 in
theorem w_X8_stayed_121 {E : EE} {p : Program} {l : Launch} {e : Env} {s : State} {m : MethodId} {args : Array Value} {below : List Frame} {meth : Method} {c : Code} {Q : Int32 → II → Prop} {k55 : Int32 → Int32 → Int32 → Int32 → Int32 → Int32 → II → Prop} (X : CX E p s m args meth c cX8_stayed 9 (some .int) RX8) (K55 : ∀ (x1 : Int32) (x2 : Int32) (x3 : Int32) (x4 : Int32) (x6 : Int32) (x7 : Int32) (I : II) (H : Heap) (locs : List Loc) (ls : Array Slot), k55 x1 x2 x3 x4 x6 x7 I → PP E s H locs I → lv_has ls 9 [(0, .ref (E.2.1 315)), (1, .int x1), (2, .int x2), (3, .int x3), (4, .int x4), (6, .int x6), (7, .int x7)] → W p l e rmX8_stayed s m args below meth c H locs 0 0 (MQ below (va_Qi Q (BU E) E.2.2.2.1) args s 0 0 E.2.2.2.1) (F0 m 55 ls [])) : ∀ (x1 : Int32) (x2 : Int32) (x3 : Int32) (x4 : Int32) (x7 : Int32) (v0 : Int32) (v1 : Int32) (I : II) (H : Heap) (locs : List Loc) (ls : Array Slot), wp_X8_stayed_121 Q k55 x1 x2 x3 x4 x7 v0 v1 I → PP E s H locs I → lv_has ls 9 [(0, .ref (E.2.1 315)), (1, .int x1), (2, .int x2), (3, .int x3), (4, .int x4), (7, .int x7)] → W p l e rmX8_stayed s m args below meth c H locs 0 0 (MQ below (va_Qi Q (BU E) E.2.2.2.1) args s 0 0 E.2.2.2.1) (F0 m 121 ls [.int v0, .int v1]) := by
  obtain ⟨⟨hx, hb, hml, hown, hts⟩, hr, hlk, hK, hST, hN⟩ := id X
  intro x1 x2 x3 x4 x7 v0 v1 I H locs ls h hp hl
  unfold wp_X8_stayed_121 at h
  refine lv_ior hx hb dX8_stayed_121 ?_
  refine lv_istore (lv' := [(6, .int (v1 ||| v0)), (0, .ref (E.2.1 315)), (1, .int x1), (2, .int x2), (3, .int x3), (4, .int x4), (7, .int x7)]) hx hb dX8_stayed_122 hl (by decide) rfl (fun ls hl => ?_)
  refine lv_iinc (v := (x7 + (nI 1))) (lv' := [(7, .int (x7 + (nI 1))), (6, .int (v1 ||| v0)), (0, .ref (E.2.1 315)), (1, .int x1), (2, .int x2), (3, .int x3), (4, .int x4)]) hx hb dX8_stayed_124 hl (k := 6) rfl rfl (by decide) rfl (fun ls hl => ?_)
  refine lv_goto (tgt := 55) hx hb dX8_stayed_127 (by decide) ?_
  exact K55 _ _ _ _ _ _ _ _ _ _ h hp (lv_sub hl [2, 3, 4, 5, 6, 1, 0] rfl)
def wp_X8_stayed_104 (Q : Int32 → II → Prop) (k55 : Int32 → Int32 → Int32 → Int32 → Int32 → Int32 → II → Prop) (x1 : Int32) (x2 : Int32) (x3 : Int32) (x4 : Int32) (x6 : Int32) (x7 : Int32) (v0 : Int32) (I : II) : Prop := ((v0 = 0 → (wp_X8_stayed_121 Q k55 x1 x2 x3 x4 x7 (nI 0) x6 I)) ∧ (¬ v0 = 0 → (wp_X8_stayed_121 Q k55 x1 x2 x3 x4 x7 ((nI 1) <<< (x7 &&& 31)) x6 I)))
set_option maxHeartbeats 4000000 in
set_option maxRecDepth 100000 in
theorem w_X8_stayed_104 {E : EE} {p : Program} {l : Launch} {e : Env} {s : State} {m : MethodId} {args : Array Value} {below : List Frame} {meth : Method} {c : Code} {Q : Int32 → II → Prop} {k55 : Int32 → Int32 → Int32 → Int32 → Int32 → Int32 → II → Prop} (X : CX E p s m args meth c cX8_stayed 9 (some .int) RX8) (K55 : ∀ (x1 : Int32) (x2 : Int32) (x3 : Int32) (x4 : Int32) (x6 : Int32) (x7 : Int32) (I : II) (H : Heap) (locs : List Loc) (ls : Array Slot), k55 x1 x2 x3 x4 x6 x7 I → PP E s H locs I → lv_has ls 9 [(0, .ref (E.2.1 315)), (1, .int x1), (2, .int x2), (3, .int x3), (4, .int x4), (6, .int x6), (7, .int x7)] → W p l e rmX8_stayed s m args below meth c H locs 0 0 (MQ below (va_Qi Q (BU E) E.2.2.2.1) args s 0 0 E.2.2.2.1) (F0 m 55 ls [])) : ∀ (x1 : Int32) (x2 : Int32) (x3 : Int32) (x4 : Int32) (x6 : Int32) (x7 : Int32) (v0 : Int32) (I : II) (H : Heap) (locs : List Loc) (ls : Array Slot), wp_X8_stayed_104 Q k55 x1 x2 x3 x4 x6 x7 v0 I → PP E s H locs I → lv_has ls 9 [(0, .ref (E.2.1 315)), (1, .int x1), (2, .int x2), (3, .int x3), (4, .int x4), (6, .int x6), (7, .int x7)] → W p l e rmX8_stayed s m args below meth c H locs 0 0 (MQ below (va_Qi Q (BU E) E.2.2.2.1) args s 0 0 E.2.2.2.1) (F0 m 104 ls [.int v0]) := by
  obtain ⟨⟨hx, hb, hml, hown, hts⟩, hr, hlk, hK, hST, hN⟩ := id X
  intro x1 x2 x3 x4 x6 x7 v0 I H locs ls h hp hl
  unfold wp_X8_stayed_104 at h
  refine lv_istore (lv' := [(8, .int v0), (0, .ref (E.2.1 315)), (1, .int x1), (2, .int x2), (3, .int x3), (4, .int x4), (6, .int x6), (7, .int x7)]) hx hb dX8_stayed_104 hl (by decide) rfl (fun ls hl => ?_)
  refine lv_iload hx hb dX8_stayed_106 (lv_at hl 6 rfl) ?_
  refine lv_iload hx hb dX8_stayed_108 (lv_at hl 0 rfl) ?_
  refine lv_if_eq (tgt := 120) hx hb dX8_stayed_110 (by decide) (fun c1 => ?_) (fun c1 => ?_)
  · have h := h.1 c1
    refine lv_iconst (v := (nI 0)) hx hb dX8_stayed_120 (by decide) ?_
    exact w_X8_stayed_121 X K55 _ _ _ _ _ _ _ _ _ _ _ h hp (lv_sub hl [1, 2, 3, 4, 5, 7] rfl)
  · have h := h.2 c1
    refine lv_iconst (v := (nI 1)) hx hb dX8_stayed_113 (by decide) ?_
    refine lv_iload hx hb dX8_stayed_114 (lv_at hl 7 rfl) ?_
    refine lv_ishl hx hb dX8_stayed_116 ?_
    refine lv_goto (tgt := 121) hx hb dX8_stayed_117 (by decide) ?_
    exact w_X8_stayed_121 X K55 _ _ _ _ _ _ _ _ _ _ _ h hp (lv_sub hl [1, 2, 3, 4, 5, 7] rfl)
def wp_X8_stayed_103 (Q : Int32 → II → Prop) (k55 : Int32 → Int32 → Int32 → Int32 → Int32 → Int32 → II → Prop) (x1 : Int32) (x2 : Int32) (x3 : Int32) (x4 : Int32) (x6 : Int32) (x7 : Int32) (I : II) : Prop := (wp_X8_stayed_104 Q k55 x1 x2 x3 x4 x6 x7 (nI 0) I)
set_option maxHeartbeats 4000000 in
set_option maxRecDepth 100000 in
theorem w_X8_stayed_103 {E : EE} {p : Program} {l : Launch} {e : Env} {s : State} {m : MethodId} {args : Array Value} {below : List Frame} {meth : Method} {c : Code} {Q : Int32 → II → Prop} {k55 : Int32 → Int32 → Int32 → Int32 → Int32 → Int32 → II → Prop} (X : CX E p s m args meth c cX8_stayed 9 (some .int) RX8) (K55 : ∀ (x1 : Int32) (x2 : Int32) (x3 : Int32) (x4 : Int32) (x6 : Int32) (x7 : Int32) (I : II) (H : Heap) (locs : List Loc) (ls : Array Slot), k55 x1 x2 x3 x4 x6 x7 I → PP E s H locs I → lv_has ls 9 [(0, .ref (E.2.1 315)), (1, .int x1), (2, .int x2), (3, .int x3), (4, .int x4), (6, .int x6), (7, .int x7)] → W p l e rmX8_stayed s m args below meth c H locs 0 0 (MQ below (va_Qi Q (BU E) E.2.2.2.1) args s 0 0 E.2.2.2.1) (F0 m 55 ls [])) : ∀ (x1 : Int32) (x2 : Int32) (x3 : Int32) (x4 : Int32) (x6 : Int32) (x7 : Int32) (I : II) (H : Heap) (locs : List Loc) (ls : Array Slot), wp_X8_stayed_103 Q k55 x1 x2 x3 x4 x6 x7 I → PP E s H locs I → lv_has ls 9 [(0, .ref (E.2.1 315)), (1, .int x1), (2, .int x2), (3, .int x3), (4, .int x4), (6, .int x6), (7, .int x7)] → W p l e rmX8_stayed s m args below meth c H locs 0 0 (MQ below (va_Qi Q (BU E) E.2.2.2.1) args s 0 0 E.2.2.2.1) (F0 m 103 ls []) := by
  obtain ⟨⟨hx, hb, hml, hown, hts⟩, hr, hlk, hK, hST, hN⟩ := id X
  intro x1 x2 x3 x4 x6 x7 I H locs ls h hp hl
  unfold wp_X8_stayed_103 at h
  refine lv_iconst (v := (nI 0)) hx hb dX8_stayed_103 (by decide) ?_
  exact w_X8_stayed_104 X K55 _ _ _ _ _ _ _ _ _ _ _ h hp (lv_sub hl [0, 1, 2, 3, 4, 5, 6] rfl)
def wp_X8_stayed_87 (Q : Int32 → II → Prop) (k55 : Int32 → Int32 → Int32 → Int32 → Int32 → Int32 → II → Prop) (x1 : Int32) (x2 : Int32) (x3 : Int32) (x4 : Int32) (x6 : Int32) (x7 : Int32) (I : II) : Prop := (wp_X8_isSo x1 x2 x3 x4 I (fun r2 I1 => ((r2 = 0 → (wp_X8_stayed_103 Q k55 x1 x2 x3 x4 x6 x7 I1)) ∧ (¬ r2 = 0 → (wp_X8_stayed_104 Q k55 x1 x2 x3 x4 x6 x7 (nI 1) I1)))))
set_option maxHeartbeats 4000000 in
set_option maxRecDepth 100000 in
theorem w_X8_stayed_87 {E : EE} {p : Program} {l : Launch} {e : Env} {s : State} {m : MethodId} {args : Array Value} {below : List Frame} {meth : Method} {c : Code} {Q : Int32 → II → Prop} {k55 : Int32 → Int32 → Int32 → Int32 → Int32 → Int32 → II → Prop} (X : CX E p s m args meth c cX8_stayed 9 (some .int) RX8) (K55 : ∀ (x1 : Int32) (x2 : Int32) (x3 : Int32) (x4 : Int32) (x6 : Int32) (x7 : Int32) (I : II) (H : Heap) (locs : List Loc) (ls : Array Slot), k55 x1 x2 x3 x4 x6 x7 I → PP E s H locs I → lv_has ls 9 [(0, .ref (E.2.1 315)), (1, .int x1), (2, .int x2), (3, .int x3), (4, .int x4), (6, .int x6), (7, .int x7)] → W p l e rmX8_stayed s m args below meth c H locs 0 0 (MQ below (va_Qi Q (BU E) E.2.2.2.1) args s 0 0 E.2.2.2.1) (F0 m 55 ls [])) : ∀ (x1 : Int32) (x2 : Int32) (x3 : Int32) (x4 : Int32) (x6 : Int32) (x7 : Int32) (I : II) (H : Heap) (locs : List Loc) (ls : Array Slot), wp_X8_stayed_87 Q k55 x1 x2 x3 x4 x6 x7 I → PP E s H locs I → lv_has ls 9 [(0, .ref (E.2.1 315)), (1, .int x1), (2, .int x2), (3, .int x3), (4, .int x4), (6, .int x6), (7, .int x7)] → W p l e rmX8_stayed s m args below meth c H locs 0 0 (MQ below (va_Qi Q (BU E) E.2.2.2.1) args s 0 0 E.2.2.2.1) (F0 m 87 ls []) := by
  obtain ⟨⟨hx, hb, hml, hown, hts⟩, hr, hlk, hK, hST, hN⟩ := id X
  intro x1 x2 x3 x4 x6 x7 I H locs ls h hp hl
  unfold wp_X8_stayed_87 at h
  refine lv_aload_n hx hb dX8_stayed_87 rfl (lv_at hl 0 rfl) ?_
  refine lv_iload_n hx hb dX8_stayed_88 rfl (lv_at hl 1 rfl) ?_
  refine lv_iload_n hx hb dX8_stayed_89 rfl (lv_at hl 2 rfl) ?_
  refine lv_iload_n hx hb dX8_stayed_90 rfl (lv_at hl 3 rfl) ?_
  refine lv_iload hx hb dX8_stayed_91 (lv_at hl 4 rfl) ?_
  refine ki (kV (As := [.int x1, .int x2, .int x3, .int x4]) (rest := []) X hp (C_X8_isSo  h) tw_ml_X8_228 vf_X8_isSo ⟨rfl, rfl, Nat.le_of_ble_eq_true rfl, Nat.le_of_ble_eq_true rfl⟩ (pr_rcv X hp (k := 315) (by decide) (ob_315 _) (q := (RX8, TX8, 18)) rfl) rfl hl.1 rfl (Nat.le_of_ble_eq_true rfl) dX8_stayed_93) hp (fun r2 I1 H locs h hp => ?_)
  refine lv_if_eq (tgt := 103) hx hb dX8_stayed_96 (by decide) (fun c3 => ?_) (fun c3 => ?_)
  · have h := h.1 c3
    exact w_X8_stayed_103 X K55 _ _ _ _ _ _ _ _ _ _ h hp (lv_sub hl [0, 1, 2, 3, 4, 5, 6] rfl)
  · have h := h.2 c3
    refine lv_iconst (v := (nI 1)) hx hb dX8_stayed_99 (by decide) ?_
    refine lv_goto (tgt := 104) hx hb dX8_stayed_100 (by decide) ?_
    exact w_X8_stayed_104 X K55 _ _ _ _ _ _ _ _ _ _ _ h hp (lv_sub hl [0, 1, 2, 3, 4, 5, 6] rfl)
def wp_X8_stayed_55 (Q : Int32 → II → Prop) (k130 : Int32 → II → Prop) : Nat → Int32 → Int32 → Int32 → Int32 → Int32 → Int32 → II → Prop
  | 0, _, _, _, _, _, _, _ => False
  | n + 1, x1, x2, x3, x4, x6, x7, I => (((nI 8) ≤ x7 → (k130 x6 I)) ∧ (¬ (nI 8) ≤ x7 → (wp_X8_leaveOut ((nI 1) <<< (x7 &&& 31)) I (fun I2 => ((x7 = (nI 7) → (wp_X8_stayed_87 Q (fun x1 x2 x3 x4 x6 x7 I => wp_X8_stayed_55 Q k130 n x1 x2 x3 x4 x6 x7 I) x1 x2 x3 x4 x6 x7 I2)) ∧ (¬ x7 = (nI 7) → (wp_X8_isWaiting (nI 0) x7 I2 (fun r6 I5 => ((r6 = 0 → (wp_X8_stayed_103 Q (fun x1 x2 x3 x4 x6 x7 I => wp_X8_stayed_55 Q k130 n x1 x2 x3 x4 x6 x7 I) x1 x2 x3 x4 x6 x7 I5)) ∧ (¬ r6 = 0 → (wp_X8_stayed_87 Q (fun x1 x2 x3 x4 x6 x7 I => wp_X8_stayed_55 Q k130 n x1 x2 x3 x4 x6 x7 I) x1 x2 x3 x4 x6 x7 I5)))))))))))
set_option maxHeartbeats 4000000 in
set_option maxRecDepth 100000 in
theorem w_X8_stayed_55 {E : EE} {p : Program} {l : Launch} {e : Env} {s : State} {m : MethodId} {args : Array Value} {below : List Frame} {meth : Method} {c : Code} {Q : Int32 → II → Prop} {k130 : Int32 → II → Prop} (X : CX E p s m args meth c cX8_stayed 9 (some .int) RX8) (K130 : ∀ (x6 : Int32) (I : II) (H : Heap) (locs : List Loc) (ls : Array Slot), k130 x6 I → PP E s H locs I → lv_has ls 9 [(0, .ref (E.2.1 315)), (6, .int x6)] → W p l e rmX8_stayed s m args below meth c H locs 0 0 (MQ below (va_Qi Q (BU E) E.2.2.2.1) args s 0 0 E.2.2.2.1) (F0 m 130 ls [])) : ∀ (n : Nat) (x1 : Int32) (x2 : Int32) (x3 : Int32) (x4 : Int32) (x6 : Int32) (x7 : Int32) (I : II) (H : Heap) (locs : List Loc) (ls : Array Slot), wp_X8_stayed_55 Q k130 n x1 x2 x3 x4 x6 x7 I → PP E s H locs I → lv_has ls 9 [(0, .ref (E.2.1 315)), (1, .int x1), (2, .int x2), (3, .int x3), (4, .int x4), (6, .int x6), (7, .int x7)] → W p l e rmX8_stayed s m args below meth c H locs 0 0 (MQ below (va_Qi Q (BU E) E.2.2.2.1) args s 0 0 E.2.2.2.1) (F0 m 55 ls []) := by
  obtain ⟨⟨hx, hb, hml, hown, hts⟩, hr, hlk, hK, hST, hN⟩ := id X
  intro n
  induction n with
  | zero =>
    intro x1 x2 x3 x4 x6 x7 I H locs ls h hp hl
    exact False.elim h
  | succ n ih =>
    intro x1 x2 x3 x4 x6 x7 I H locs ls h hp hl
    rw [wp_X8_stayed_55.eq_2] at h
    refine lv_iload hx hb dX8_stayed_55 (lv_at hl 6 rfl) ?_
    refine lv_bipush (v := (nI 8)) hx hb dX8_stayed_57 (by decide) ?_
    refine lv_icmp_ge (tgt := 130) hx hb dX8_stayed_59 (by decide) (fun c1 => ?_) (fun c1 => ?_)
    · have h := h.1 c1
      exact K130 _ _ _ _ _ h hp (lv_sub hl [0, 5] rfl)
    · have h := h.2 c1
      refine lv_aload_n hx hb dX8_stayed_62 rfl (lv_at hl 0 rfl) ?_
      refine lv_iconst (v := (nI 1)) hx hb dX8_stayed_63 (by decide) ?_
      refine lv_iload hx hb dX8_stayed_64 (lv_at hl 6 rfl) ?_
      refine lv_ishl hx hb dX8_stayed_66 ?_
      refine kv (kV (As := [.int ((nI 1) <<< (x7 &&& 31))]) (rest := []) X hp (C_X8_leaveOut  h) tw_ml_X8_232 vf_X8_leaveOut ⟨rfl, rfl, Nat.le_of_ble_eq_true rfl, Nat.le_of_ble_eq_true rfl⟩ (pr_rcv X hp (k := 315) (by decide) (ob_315 _) (q := (RX8, TX8, 18)) rfl) rfl hl.1 rfl (Nat.le_of_ble_eq_true rfl) dX8_stayed_67) hp (fun I2 H locs h hp => ?_)
      refine lv_iload hx hb dX8_stayed_70 (lv_at hl 6 rfl) ?_
      refine lv_bipush (v := (nI 7)) hx hb dX8_stayed_72 (by decide) ?_
      refine lv_icmp_eq (tgt := 87) hx hb dX8_stayed_74 (by decide) (fun c4 => ?_) (fun c4 => ?_)
      · have h := h.1 c4
        exact w_X8_stayed_87 X ih _ _ _ _ _ _ _ _ _ _ h hp (lv_sub hl [0, 1, 2, 3, 4, 5, 6] rfl)
      · have h := h.2 c4
        refine lv_aload_n hx hb dX8_stayed_77 rfl (lv_at hl 0 rfl) ?_
        refine lv_iconst (v := (nI 0)) hx hb dX8_stayed_78 (by decide) ?_
        refine lv_iload hx hb dX8_stayed_79 (lv_at hl 6 rfl) ?_
        refine ki (kV (As := [.int (nI 0), .int x7]) (rest := []) X hp (C_X8_isWaiting  h) tw_ml_X8_178 vf_X8_isWaiting ⟨rfl, rfl, Nat.le_of_ble_eq_true rfl, Nat.le_of_ble_eq_true rfl⟩ (pr_rcv X hp (k := 315) (by decide) (ob_315 _) (q := (RX8, TX8, 18)) rfl) rfl hl.1 rfl (Nat.le_of_ble_eq_true rfl) dX8_stayed_81) hp (fun r6 I5 H locs h hp => ?_)
        refine lv_if_eq (tgt := 103) hx hb dX8_stayed_84 (by decide) (fun c7 => ?_) (fun c7 => ?_)
        · have h := h.1 c7
          exact w_X8_stayed_103 X ih _ _ _ _ _ _ _ _ _ _ h hp (lv_sub hl [0, 1, 2, 3, 4, 5, 6] rfl)
        · have h := h.2 c7
          exact w_X8_stayed_87 X ih _ _ _ _ _ _ _ _ _ _ h hp (lv_sub hl [0, 1, 2, 3, 4, 5, 6] rfl)
def wp_X8_stayed (x1 : Int32) (x2 : Int32) (x3 : Int32) (x4 : Int32) (I : II) (Q : Int32 → II → Prop) : Prop := (wp_X8_isTeller x1 I (fun r2 I1 => ((r2 = 0 → (Q (-nI 1000001) I1)) ∧ (¬ r2 = 0 → (wp_X8_isRow x2 I1 (fun r5 I4 => ((r5 = 0 → (Q (-nI 1000001) I4)) ∧ (¬ r5 = 0 → (wp_X8_in x4.toInt64 (lN 1) (lN 12) I4 (fun r8 I7 => ((¬ r8 = 0 → (wp_X8_noItems x2 x3 x4 I7 (fun r11 I10 => ((r11 = 0 → (∃ n65, wp_X8_stayed_55 Q (fun x6 I => (wp_X8_well x6 I (fun r64 I63 => (Q r64 I63)))) n65 x1 x2 x3 x4 (nI 0) (nI 0) I10)) ∧ (¬ r11 = 0 → (Q r11 I10)))))) ∧ (r8 = 0 → (Q (-nI 1000001) I7)))))))))))))
set_option maxHeartbeats 4000000 in
set_option maxRecDepth 100000 in
theorem w_X8_stayed_0 {E : EE} {p : Program} {l : Launch} {e : Env} {s : State} {m : MethodId} {args : Array Value} {below : List Frame} {meth : Method} {c : Code} {Q : Int32 → II → Prop} (X : CX E p s m args meth c cX8_stayed 9 (some .int) RX8) : ∀ (x1 : Int32) (x2 : Int32) (x3 : Int32) (x4 : Int32) (I : II) (H : Heap) (locs : List Loc) (ls : Array Slot), wp_X8_stayed x1 x2 x3 x4 I Q → PP E s H locs I → lv_has ls 9 [(0, .ref (E.2.1 315)), (1, .int x1), (2, .int x2), (3, .int x3), (4, .int x4)] → W p l e rmX8_stayed s m args below meth c H locs 0 0 (MQ below (va_Qi Q (BU E) E.2.2.2.1) args s 0 0 E.2.2.2.1) (F0 m 0 ls []) := by
  obtain ⟨⟨hx, hb, hml, hown, hts⟩, hr, hlk, hK, hST, hN⟩ := id X
  intro x1 x2 x3 x4 I H locs ls h hp hl
  unfold wp_X8_stayed at h
  refine lv_aload_n hx hb dX8_stayed_0 rfl (lv_at hl 0 rfl) ?_
  refine lv_iload_n hx hb dX8_stayed_1 rfl (lv_at hl 1 rfl) ?_
  refine ki (kV (As := [.int x1]) (rest := []) X hp (C_X8_isTeller  h) tw_ml_X8_175 vf_X8_isTeller ⟨rfl, rfl, Nat.le_of_ble_eq_true rfl, Nat.le_of_ble_eq_true rfl⟩ (pr_rcv X hp (k := 315) (by decide) (ob_315 _) (q := (RX8, TX8, 18)) rfl) rfl hl.1 rfl (Nat.le_of_ble_eq_true rfl) dX8_stayed_2) hp (fun r2 I1 H locs h hp => ?_)
  refine lv_if_eq (tgt := 28) hx hb dX8_stayed_5 (by decide) (fun c3 => ?_) (fun c3 => ?_)
  · have h := h.1 c3
    refine lv_ldc (v := (-nI 1000001)) hx hb hown (hts _ tw_k_X8_55) dX8_stayed_28 ?_
    exact rt_i X hp h dX8_stayed_30
  · have h := h.2 c3
    refine lv_iload_n hx hb dX8_stayed_8 rfl (lv_at hl 2 rfl) ?_
    refine ki (kS (As := [.int x2]) (rest := []) X hp (C_X8_isRow  h) tw_ml_X8_49 sf_X8_isRow ⟨rfl, rfl, Nat.le_of_ble_eq_true rfl, Nat.le_of_ble_eq_true rfl⟩ rfl hl.1 rfl (Nat.le_of_ble_eq_true rfl) dX8_stayed_9) hp (fun r5 I4 H locs h hp => ?_)
    refine lv_if_eq (tgt := 28) hx hb dX8_stayed_12 (by decide) (fun c6 => ?_) (fun c6 => ?_)
    · have h := h.1 c6
      refine lv_ldc (v := (-nI 1000001)) hx hb hown (hts _ tw_k_X8_55) dX8_stayed_28 ?_
      exact rt_i X hp h dX8_stayed_30
    · have h := h.2 c6
      refine lv_iload hx hb dX8_stayed_15 (lv_at hl 4 rfl) ?_
      refine lv_i2l (v := x4.toInt64) hx hb dX8_stayed_17 rfl ?_
      refine lv_lconst (v := (lN 1)) hx hb dX8_stayed_18 (by decide) ?_
      refine lv_ldc2 (v := (lN 12)) hx hb hown (hts _ tw_kl_X8_223) dX8_stayed_19 ?_
      refine ki (kS (As := [.long x4.toInt64, .long (lN 1), .long (lN 12)]) (rest := []) X hp (C_X8_in  h) tw_ml_X8_45 sf_X8_in ⟨rfl, rfl, Nat.le_of_ble_eq_true rfl, Nat.le_of_ble_eq_true rfl⟩ rfl hl.1 rfl (Nat.le_of_ble_eq_true rfl) dX8_stayed_22) hp (fun r8 I7 H locs h hp => ?_)
      refine lv_if_ne (tgt := 31) hx hb dX8_stayed_25 (by decide) (fun c9 => ?_) (fun c9 => ?_)
      · have h := h.1 c9
        refine lv_aload_n hx hb dX8_stayed_31 rfl (lv_at hl 0 rfl) ?_
        refine lv_iload_n hx hb dX8_stayed_32 rfl (lv_at hl 2 rfl) ?_
        refine lv_iload_n hx hb dX8_stayed_33 rfl (lv_at hl 3 rfl) ?_
        refine lv_iload hx hb dX8_stayed_34 (lv_at hl 4 rfl) ?_
        refine ki (kV (As := [.int x2, .int x3, .int x4]) (rest := []) X hp (C_X8_noItems  h) tw_ml_X8_225 vf_X8_noItems ⟨rfl, rfl, Nat.le_of_ble_eq_true rfl, Nat.le_of_ble_eq_true rfl⟩ (pr_rcv X hp (k := 315) (by decide) (ob_315 _) (q := (RX8, TX8, 18)) rfl) rfl hl.1 rfl (Nat.le_of_ble_eq_true rfl) dX8_stayed_36) hp (fun r11 I10 H locs h hp => ?_)
        refine lv_istore (lv' := [(5, .int r11), (0, .ref (E.2.1 315)), (1, .int x1), (2, .int x2), (3, .int x3), (4, .int x4)]) hx hb dX8_stayed_39 hl (by decide) rfl (fun ls hl => ?_)
        refine lv_iload hx hb dX8_stayed_41 (lv_at hl 0 rfl) ?_
        refine lv_if_eq (tgt := 49) hx hb dX8_stayed_43 (by decide) (fun c12 => ?_) (fun c12 => ?_)
        · have h := h.1 c12
          refine lv_iconst (v := (nI 0)) hx hb dX8_stayed_49 (by decide) ?_
          refine lv_istore (lv' := [(6, .int (nI 0)), (5, .int r11), (0, .ref (E.2.1 315)), (1, .int x1), (2, .int x2), (3, .int x3), (4, .int x4)]) hx hb dX8_stayed_50 hl (by decide) rfl (fun ls hl => ?_)
          refine lv_iconst (v := (nI 0)) hx hb dX8_stayed_52 (by decide) ?_
          refine lv_istore (lv' := [(7, .int (nI 0)), (6, .int (nI 0)), (5, .int r11), (0, .ref (E.2.1 315)), (1, .int x1), (2, .int x2), (3, .int x3), (4, .int x4)]) hx hb dX8_stayed_53 hl (by decide) rfl (fun ls hl => ?_)
          obtain ⟨n65, h⟩ := h
          refine w_X8_stayed_55 X ?_ n65 _ _ _ _ _ _ _ _ _ _ h hp (lv_sub hl [3, 4, 5, 6, 7, 1, 0] rfl)
          · intro x6 I H locs ls h hp hl
            refine lv_aload_n hx hb dX8_stayed_130 rfl (lv_at hl 0 rfl) ?_
            refine lv_iload hx hb dX8_stayed_131 (lv_at hl 1 rfl) ?_
            refine ki (kV (As := [.int x6]) (rest := []) X hp (C_X8_well  h) tw_ml_X8_60 vf_X8_well ⟨rfl, rfl, Nat.le_of_ble_eq_true rfl, Nat.le_of_ble_eq_true rfl⟩ (pr_rcv X hp (k := 315) (by decide) (ob_315 _) (q := (RX8, TX8, 18)) rfl) rfl hl.1 rfl (Nat.le_of_ble_eq_true rfl) dX8_stayed_133) hp (fun r64 I63 H locs h hp => ?_)
            exact rt_i X hp h dX8_stayed_136
        · have h := h.2 c12
          refine lv_iload hx hb dX8_stayed_46 (lv_at hl 0 rfl) ?_
          exact rt_i X hp h dX8_stayed_48
      · have h := h.2 c9
        refine lv_ldc (v := (-nI 1000001)) hx hb hown (hts _ tw_k_X8_55) dX8_stayed_28 ?_
        exact rt_i X hp h dX8_stayed_30
set_option maxRecDepth 100000 in
theorem C_X8_stayed {E : EE} {l : Launch} {x1 : Int32} {x2 : Int32} {x3 : Int32} {x4 : Int32} {I : II} {Q : Int32 → II → Prop} (h : wp_X8_stayed x1 x2 x3 x4 I Q) : Met l yX8_stayed (Cond.code yX8_stayed cX8_stayed 9 (some .int) :: lwT) rmX8_stayed (va_Pc [.ref (E.2.1 315), .int x1, .int x2, .int x3, .int x4] (PU E I)) (va_Qi Q (BU E) E.2.2.2.1) 0 0 E.2.2.2.1 :=
  ofWalk [.ref (E.2.1 315), .int x1, .int x2, .int x3, .int x4] (by decide) tw_c_X8_stayed (Nat.le_of_ble_eq_true rfl) (fun p e s m below meth c ls X hp hl => w_X8_stayed_0 X _ _ _ _ _ _ _ _ h hp hl)

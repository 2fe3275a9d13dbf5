abbrev rmX8_come : Room := { frames := 2, cells := 0, slots := 0, locals := 48 }
theorem vf_X8_come : VF yX8_come RX8 cX8_come 3 (some .int) 2 := ⟨tw_in_X8, tw_im_X8_come, tw_se_X8_come, tw_c_X8_come, by decide, by decide, by decide +kernel⟩
def wp_X8_come (x1 : Int32) (x2 : Int32) (I : II) (Q : Int32 → II → Prop) : Prop := ((¬ (I 315 1) = 0 → (wp_X8_in x1.toInt64 (lN 0) (lN 1) I (fun r3 I2 => ((r3 = 0 → (Q (-nI 1000001) I2)) ∧ (¬ r3 = 0 → (wp_X8_in x2.toInt64 (lN 1) (lN 30) I2 (fun r6 I5 => ((¬ r6 = 0 → (vp_in (nI 7) 1372 ∧ ((¬ (I5 316 (nI 7).toNatClampNeg) = (nI 7) → (wp_X8_keepPast I5 (fun I10 => (wp_X8_comes (nI 0) x1 x2 I10 (fun r13 I12 => (Q r13 I12)))))) ∧ ((I5 316 (nI 7).toNatClampNeg) = (nI 7) → (Q (-nI 1000003) I5))))) ∧ (r6 = 0 → (Q (-nI 1000001) I5)))))))))) ∧ ((I 315 1) = 0 → (Q (-nI 1000002) I)))
set_option maxHeartbeats 4000000 in
set_option maxRecDepth 100000 in
theorem w_X8_come_0 {E : EE} {p : Program} {l : Launch} {e : Env} {s : State} {m : MethodId} {args : Array Value} {below : List Frame} {meth : Method} {c : Code} {Q : Int32 → II → Prop} (X : CX E p s m args meth c cX8_come 3 (some .int) RX8) : ∀ (x1 : Int32) (x2 : Int32) (I : II) (H : Heap) (locs : List Loc) (ls : Array Slot), wp_X8_come x1 x2 I Q → PP E s H locs I → lv_has ls 3 [(0, .ref (E.2.1 315)), (1, .int x1), (2, .int x2)] → W p l e rmX8_come s m args below meth c H locs 0 0 (MQ below (va_Qi Q (BU E) E.2.2.2.1) args s 0 0 E.2.2.2.1) (F0 m 0 ls []) := by
  obtain ⟨⟨hx, hb, hml, hown, hts⟩, hr, hlk, hK, hST, hN⟩ := id X
  intro x1 x2 I H locs ls h hp hl
  unfold wp_X8_come at h
  refine lv_aload_n hx hb dX8_come_0 rfl (lv_at hl 0 rfl) ?_
  refine f_X8_137 X hp dX8_come_1 ?_
  refine lv_if_ne (tgt := 10) hx hb dX8_come_4 (by decide) (fun c1 => ?_) (fun c1 => ?_)
  · have h := h.1 c1
    refine lv_iload_n hx hb dX8_come_10 rfl (lv_at hl 1 rfl) ?_
    refine lv_i2l (v := x1.toInt64) hx hb dX8_come_11 rfl ?_
    refine lv_lconst (v := (lN 0)) hx hb dX8_come_12 (by decide) ?_
    refine lv_lconst (v := (lN 1)) hx hb dX8_come_13 (by decide) ?_
    refine ki (kS (As := [.long x1.toInt64, .long (lN 0), .long (lN 1)]) (rest := []) X hp (C_X8_in  h) tw_ml_X8_45 sf_X8_in ⟨rfl, rfl, Nat.le_of_ble_eq_true rfl, Nat.le_of_ble_eq_true rfl⟩ rfl hl.1 rfl (Nat.le_of_ble_eq_true rfl) dX8_come_14) hp (fun r3 I2 H locs h hp => ?_)
    refine lv_if_eq (tgt := 32) hx hb dX8_come_17 (by decide) (fun c4 => ?_) (fun c4 => ?_)
    · have h := h.1 c4
      refine lv_ldc (v := (-nI 1000001)) hx hb hown (hts _ tw_k_X8_55) dX8_come_32 ?_
      exact rt_i X hp h dX8_come_34
    · have h := h.2 c4
      refine lv_iload_n hx hb dX8_come_20 rfl (lv_at hl 2 rfl) ?_
      refine lv_i2l (v := x2.toInt64) hx hb dX8_come_21 rfl ?_
      refine lv_lconst (v := (lN 1)) hx hb dX8_come_22 (by decide) ?_
      refine lv_ldc2 (v := (lN 30)) hx hb hown (hts _ tw_kl_X8_181) dX8_come_23 ?_
      refine ki (kS (As := [.long x2.toInt64, .long (lN 1), .long (lN 30)]) (rest := []) X hp (C_X8_in  h) tw_ml_X8_45 sf_X8_in ⟨rfl, rfl, Nat.le_of_ble_eq_true rfl, Nat.le_of_ble_eq_true rfl⟩ rfl hl.1 rfl (Nat.le_of_ble_eq_true rfl) dX8_come_26) hp (fun r6 I5 H locs h hp => ?_)
      refine lv_if_ne (tgt := 35) hx hb dX8_come_29 (by decide) (fun c7 => ?_) (fun c7 => ?_)
      · have h := h.1 c7
        refine lv_aload_n hx hb dX8_come_35 rfl (lv_at hl 0 rfl) ?_
        refine f_X8_7 X hp dX8_come_36 ?_
        refine lv_bipush (v := (nI 7)) hx hb dX8_come_39 (by decide) ?_
        have hv8 := h.1
        have h := h.2
        refine al_i X hp ar_s316 hv8 dX8_come_41 ?_
        refine lv_bipush (v := (nI 7)) hx hb dX8_come_42 (by decide) ?_
        refine lv_icmp_ne (tgt := 50) hx hb dX8_come_44 (by decide) (fun c9 => ?_) (fun c9 => ?_)
        · have h := h.1 c9
          refine lv_aload_n hx hb dX8_come_50 rfl (lv_at hl 0 rfl) ?_
          refine kv (kV (As := []) (rest := []) X hp (C_X8_keepPast  h) tw_ml_X8_172 vf_X8_keepPast ⟨rfl, rfl, Nat.le_of_ble_eq_true rfl, Nat.le_of_ble_eq_true rfl⟩ (pr_rcv X hp (k := 315) (by decide) (ob_315 _) (q := (RX8, TX8, 18)) rfl) rfl hl.1 rfl (Nat.le_of_ble_eq_true rfl) dX8_come_51) hp (fun I10 H locs h hp => ?_)
          refine lv_aload_n hx hb dX8_come_54 rfl (lv_at hl 0 rfl) ?_
          refine lv_iconst (v := (nI 0)) hx hb dX8_come_55 (by decide) ?_
          refine lv_iload_n hx hb dX8_come_56 rfl (lv_at hl 1 rfl) ?_
          refine lv_iload_n hx hb dX8_come_57 rfl (lv_at hl 2 rfl) ?_
          refine ki (kV (As := [.int (nI 0), .int x1, .int x2]) (rest := []) X hp (C_X8_comes  h) tw_ml_X8_183 vf_X8_comes ⟨rfl, rfl, Nat.le_of_ble_eq_true rfl, Nat.le_of_ble_eq_true rfl⟩ (pr_rcv X hp (k := 315) (by decide) (ob_315 _) (q := (RX8, TX8, 18)) rfl) rfl hl.1 rfl (Nat.le_of_ble_eq_true rfl) dX8_come_58) hp (fun r13 I12 H locs h hp => ?_)
          exact rt_i X hp h dX8_come_61
        · have h := h.2 c9
          refine lv_ldc (v := (-nI 1000003)) hx hb hown (hts _ tw_k_X8_76) dX8_come_47 ?_
          exact rt_i X hp h dX8_come_49
      · have h := h.2 c7
        refine lv_ldc (v := (-nI 1000001)) hx hb hown (hts _ tw_k_X8_55) dX8_come_32 ?_
        exact rt_i X hp h dX8_come_34
  · have h := h.2 c1
    refine lv_ldc (v := (-nI 1000002)) hx hb hown (hts _ tw_k_X8_144) dX8_come_7 ?_
    exact rt_i X hp h dX8_come_9
set_option maxRecDepth 100000 in
theorem C_X8_come {E : EE} {l : Launch} {x1 : Int32} {x2 : Int32} {I : II} {Q : Int32 → II → Prop} (h : wp_X8_come x1 x2 I Q) : Met l yX8_come (Cond.code yX8_come cX8_come 3 (some .int) :: lwT) rmX8_come (va_Pc [.ref (E.2.1 315), .int x1, .int x2] (PU E I)) (va_Qi Q (BU E) E.2.2.2.1) 0 0 E.2.2.2.1 :=
  ofWalk [.ref (E.2.1 315), .int x1, .int x2] (by decide) tw_c_X8_come (Nat.le_of_ble_eq_true rfl) (fun p e s m below meth c ls X hp hl => w_X8_come_0 X _ _ _ _ _ _ h hp hl)
abbrev rmX8_dismiss : Room := { frames := 2, cells := 0, slots := 0, locals := 44 }
theorem vf_X8_dismiss : VF yX8_dismiss RX8 cX8_dismiss 2 (some .int) 0 := ⟨tw_in_X8, tw_im_X8_dismiss, tw_se_X8_dismiss, tw_c_X8_dismiss, by decide, by decide, by decide +kernel⟩
def wp_X8_dismiss (I : II) (Q : Int32 → II → Prop) : Prop := (((I 315 1) = 0 → (Q (-nI 1000002) I)) ∧ (¬ (I 315 1) = 0 → (vp_in (nI 7) 1372 ∧ ((¬ (I 316 (nI 7).toNatClampNeg) = 0 → (wp_X8_keepPast I (fun I4 => (vp_in (nI 8) 1372 ∧ (wp_X8_leaveFirst (nI 0) I4 (fun I7 => (vp_in (nI 5) 1372 ∧ (vp_in (nI 5) 1372 ∧ ∀ I11 : II, I11 = su I7 316 (nI 5).toNatClampNeg ((I7 316 (nI 5).toNatClampNeg) + (nI 1)) → (Q (I4 316 (nI 8).toNatClampNeg) I11))))))))) ∧ ((I 316 (nI 7).toNatClampNeg) = 0 → (Q (-nI 1000002) I))))))
set_option maxHeartbeats 4000000 in
set_option maxRecDepth 100000 in
theorem w_X8_dismiss_0 {E : EE} {p : Program} {l : Launch} {e : Env} {s : State} {m : MethodId} {args : Array Value} {below : List Frame} {meth : Method} {c : Code} {Q : Int32 → II → Prop} (X : CX E p s m args meth c cX8_dismiss 2 (some .int) RX8) : ∀ (I : II) (H : Heap) (locs : List Loc) (ls : Array Slot), wp_X8_dismiss I Q → PP E s H locs I → lv_has ls 2 [(0, .ref (E.2.1 315))] → W p l e rmX8_dismiss s m args below meth c H locs 0 0 (MQ below (va_Qi Q (BU E) E.2.2.2.1) args s 0 0 E.2.2.2.1) (F0 m 0 ls []) := by
  obtain ⟨⟨hx, hb, hml, hown, hts⟩, hr, hlk, hK, hST, hN⟩ := id X
  intro I H locs ls h hp hl
  unfold wp_X8_dismiss at h
  refine lv_aload_n hx hb dX8_dismiss_0 rfl (lv_at hl 0 rfl) ?_
  refine f_X8_137 X hp dX8_dismiss_1 ?_
  refine lv_if_eq (tgt := 17) hx hb dX8_dismiss_4 (by decide) (fun c1 => ?_) (fun c1 => ?_)
  · have h := h.1 c1
    refine lv_ldc (v := (-nI 1000002)) hx hb hown (hts _ tw_k_X8_144) dX8_dismiss_17 ?_
    exact rt_i X hp h dX8_dismiss_19
  · have h := h.2 c1
    refine lv_aload_n hx hb dX8_dismiss_7 rfl (lv_at hl 0 rfl) ?_
    refine f_X8_7 X hp dX8_dismiss_8 ?_
    refine lv_bipush (v := (nI 7)) hx hb dX8_dismiss_11 (by decide) ?_
    have hv2 := h.1
    have h := h.2
    refine al_i X hp ar_s316 hv2 dX8_dismiss_13 ?_
    refine lv_if_ne (tgt := 20) hx hb dX8_dismiss_14 (by decide) (fun c3 => ?_) (fun c3 => ?_)
    · have h := h.1 c3
      refine lv_aload_n hx hb dX8_dismiss_20 rfl (lv_at hl 0 rfl) ?_
      refine kv (kV (As := []) (rest := []) X hp (C_X8_keepPast  h) tw_ml_X8_172 vf_X8_keepPast ⟨rfl, rfl, Nat.le_of_ble_eq_true rfl, Nat.le_of_ble_eq_true rfl⟩ (pr_rcv X hp (k := 315) (by decide) (ob_315 _) (q := (RX8, TX8, 18)) rfl) rfl hl.1 rfl (Nat.le_of_ble_eq_true rfl) dX8_dismiss_21) hp (fun I4 H locs h hp => ?_)
      refine lv_aload_n hx hb dX8_dismiss_24 rfl (lv_at hl 0 rfl) ?_
      refine f_X8_7 X hp dX8_dismiss_25 ?_
      refine lv_bipush (v := (nI 8)) hx hb dX8_dismiss_28 (by decide) ?_
      have hv6 := h.1
      have h := h.2
      refine al_i X hp ar_s316 hv6 dX8_dismiss_30 ?_
      refine lv_istore_n (lv' := [(1, .int (I4 316 (nI 8).toNatClampNeg)), (0, .ref (E.2.1 315))]) hx hb dX8_dismiss_31 rfl hl (by decide) rfl (fun ls hl => ?_)
      refine lv_aload_n hx hb dX8_dismiss_32 rfl (lv_at hl 1 rfl) ?_
      refine lv_iconst (v := (nI 0)) hx hb dX8_dismiss_33 (by decide) ?_
      refine kv (kV (As := [.int (nI 0)]) (rest := []) X hp (C_X8_leaveFirst  h) tw_ml_X8_163 vf_X8_leaveFirst ⟨rfl, rfl, Nat.le_of_ble_eq_true rfl, Nat.le_of_ble_eq_true rfl⟩ (pr_rcv X hp (k := 315) (by decide) (ob_315 _) (q := (RX8, TX8, 18)) rfl) rfl hl.1 rfl (Nat.le_of_ble_eq_true rfl) dX8_dismiss_34) hp (fun I7 H locs h hp => ?_)
      refine lv_aload_n hx hb dX8_dismiss_37 rfl (lv_at hl 1 rfl) ?_
      refine f_X8_7 X hp dX8_dismiss_38 ?_
      refine lv_iconst (v := (nI 5)) hx hb dX8_dismiss_41 (by decide) ?_
      refine lv_dup2_11 hx hb dX8_dismiss_42 rfl rfl ?_
      have hv9 := h.1
      have h := h.2
      refine al_i X hp ar_s316 hv9 dX8_dismiss_43 ?_
      refine lv_iconst (v := (nI 1)) hx hb dX8_dismiss_44 (by decide) ?_
      refine lv_iadd hx hb dX8_dismiss_45 ?_
      have hv10 := h.1
      have h := h.2
      refine as_i X hp ar_s316 hv10 dX8_dismiss_46 (fun H locs hp => ?_)
      obtain ⟨I11, e12⟩ : ∃ y, y = su I7 316 (nI 5).toNatClampNeg ((I7 316 (nI 5).toNatClampNeg) + (nI 1)) := ⟨_, rfl⟩
      have hp : PP E s H locs I11 := by rw [e12]; exact hp
      have h := h I11 e12
      refine lv_iload_n hx hb dX8_dismiss_47 rfl (lv_at hl 0 rfl) ?_
      exact rt_i X hp h dX8_dismiss_48
    · have h := h.2 c3
      refine lv_ldc (v := (-nI 1000002)) hx hb hown (hts _ tw_k_X8_144) dX8_dismiss_17 ?_
      exact rt_i X hp h dX8_dismiss_19
set_option maxRecDepth 100000 in
theorem C_X8_dismiss {E : EE} {l : Launch} {I : II} {Q : Int32 → II → Prop} (h : wp_X8_dismiss I Q) : Met l yX8_dismiss (Cond.code yX8_dismiss cX8_dismiss 2 (some .int) :: lwT) rmX8_dismiss (va_Pc [.ref (E.2.1 315)] (PU E I)) (va_Qi Q (BU E) E.2.2.2.1) 0 0 E.2.2.2.1 :=
  ofWalk [.ref (E.2.1 315)] (by decide) tw_c_X8_dismiss (Nat.le_of_ble_eq_true rfl) (fun p e s m below meth c ls X hp hl => w_X8_dismiss_0 X _ _ _ _ h hp hl)
abbrev rmX8_swap : Room := { frames := 2, cells := 0, slots := 0, locals := 44 }
theorem vf_X8_swap : VF yX8_swap RX8 cX8_swap 2 (some .int) 0 := ⟨tw_in_X8, tw_im_X8_swap, tw_se_X8_swap, tw_c_X8_swap, by decide, by decide, by decide +kernel⟩
def wp_X8_swap (I : II) (Q : Int32 → II → Prop) : Prop := (((I 315 1) = 0 → (Q (-nI 1000002) I)) ∧ (¬ (I 315 1) = 0 → (vp_in (nI 7) 1372 ∧ (((nI 2) ≤ (I 316 (nI 7).toNatClampNeg) → (wp_X8_keepPast I (fun I4 => (vp_in (nI 8) 1372 ∧ (vp_in (nI 9) 1372 ∧ (vp_in (nI 8) 1372 ∧ ∀ I9 : II, I9 = su I4 316 (nI 8).toNatClampNeg (I4 316 (nI 9).toNatClampNeg) → (vp_in (nI 9) 1372 ∧ ∀ I12 : II, I12 = su I9 316 (nI 9).toNatClampNeg (I4 316 (nI 8).toNatClampNeg) → (vp_in (nI 8) 1372 ∧ (Q (I12 316 (nI 8).toNatClampNeg) I12))))))))) ∧ (¬ (nI 2) ≤ (I 316 (nI 7).toNatClampNeg) → (Q (-nI 1000002) I))))))
set_option maxHeartbeats 4000000 in
set_option maxRecDepth 100000 in
theorem w_X8_swap_0 {E : EE} {p : Program} {l : Launch} {e : Env} {s : State} {m : MethodId} {args : Array Value} {below : List Frame} {meth : Method} {c : Code} {Q : Int32 → II → Prop} (X : CX E p s m args meth c cX8_swap 2 (some .int) RX8) : ∀ (I : II) (H : Heap) (locs : List Loc) (ls : Array Slot), wp_X8_swap I Q → PP E s H locs I → lv_has ls 2 [(0, .ref (E.2.1 315))] → W p l e rmX8_swap s m args below meth c H locs 0 0 (MQ below (va_Qi Q (BU E) E.2.2.2.1) args s 0 0 E.2.2.2.1) (F0 m 0 ls []) := by
  obtain ⟨⟨hx, hb, hml, hown, hts⟩, hr, hlk, hK, hST, hN⟩ := id X
  intro I H locs ls h hp hl
  unfold wp_X8_swap at h
  refine lv_aload_n hx hb dX8_swap_0 rfl (lv_at hl 0 rfl) ?_
  refine f_X8_137 X hp dX8_swap_1 ?_
  refine lv_if_eq (tgt := 18) hx hb dX8_swap_4 (by decide) (fun c1 => ?_) (fun c1 => ?_)
  · have h := h.1 c1
    refine lv_ldc (v := (-nI 1000002)) hx hb hown (hts _ tw_k_X8_144) dX8_swap_18 ?_
    exact rt_i X hp h dX8_swap_20
  · have h := h.2 c1
    refine lv_aload_n hx hb dX8_swap_7 rfl (lv_at hl 0 rfl) ?_
    refine f_X8_7 X hp dX8_swap_8 ?_
    refine lv_bipush (v := (nI 7)) hx hb dX8_swap_11 (by decide) ?_
    have hv2 := h.1
    have h := h.2
    refine al_i X hp ar_s316 hv2 dX8_swap_13 ?_
    refine lv_iconst (v := (nI 2)) hx hb dX8_swap_14 (by decide) ?_
    refine lv_icmp_ge (tgt := 21) hx hb dX8_swap_15 (by decide) (fun c3 => ?_) (fun c3 => ?_)
    · have h := h.1 c3
      refine lv_aload_n hx hb dX8_swap_21 rfl (lv_at hl 0 rfl) ?_
      refine kv (kV (As := []) (rest := []) X hp (C_X8_keepPast  h) tw_ml_X8_172 vf_X8_keepPast ⟨rfl, rfl, Nat.le_of_ble_eq_true rfl, Nat.le_of_ble_eq_true rfl⟩ (pr_rcv X hp (k := 315) (by decide) (ob_315 _) (q := (RX8, TX8, 18)) rfl) rfl hl.1 rfl (Nat.le_of_ble_eq_true rfl) dX8_swap_22) hp (fun I4 H locs h hp => ?_)
      refine lv_aload_n hx hb dX8_swap_25 rfl (lv_at hl 0 rfl) ?_
      refine f_X8_7 X hp dX8_swap_26 ?_
      refine lv_bipush (v := (nI 8)) hx hb dX8_swap_29 (by decide) ?_
      have hv6 := h.1
      have h := h.2
      refine al_i X hp ar_s316 hv6 dX8_swap_31 ?_
      refine lv_istore_n (lv' := [(1, .int (I4 316 (nI 8).toNatClampNeg)), (0, .ref (E.2.1 315))]) hx hb dX8_swap_32 rfl hl (by decide) rfl (fun ls hl => ?_)
      refine lv_aload_n hx hb dX8_swap_33 rfl (lv_at hl 1 rfl) ?_
      refine f_X8_7 X hp dX8_swap_34 ?_
      refine lv_bipush (v := (nI 8)) hx hb dX8_swap_37 (by decide) ?_
      refine lv_aload_n hx hb dX8_swap_39 rfl (lv_at hl 1 rfl) ?_
      refine f_X8_7 X hp dX8_swap_40 ?_
      refine lv_bipush (v := (nI 9)) hx hb dX8_swap_43 (by decide) ?_
      have hv7 := h.1
      have h := h.2
      refine al_i X hp ar_s316 hv7 dX8_swap_45 ?_
      have hv8 := h.1
      have h := h.2
      refine as_i X hp ar_s316 hv8 dX8_swap_46 (fun H locs hp => ?_)
      obtain ⟨I9, e10⟩ : ∃ y, y = su I4 316 (nI 8).toNatClampNeg (I4 316 (nI 9).toNatClampNeg) := ⟨_, rfl⟩
      have hp : PP E s H locs I9 := by rw [e10]; exact hp
      have h := h I9 e10
      refine lv_aload_n hx hb dX8_swap_47 rfl (lv_at hl 1 rfl) ?_
      refine f_X8_7 X hp dX8_swap_48 ?_
      refine lv_bipush (v := (nI 9)) hx hb dX8_swap_51 (by decide) ?_
      refine lv_iload_n hx hb dX8_swap_53 rfl (lv_at hl 0 rfl) ?_
      have hv11 := h.1
      have h := h.2
      refine as_i X hp ar_s316 hv11 dX8_swap_54 (fun H locs hp => ?_)
      obtain ⟨I12, e13⟩ : ∃ y, y = su I9 316 (nI 9).toNatClampNeg (I4 316 (nI 8).toNatClampNeg) := ⟨_, rfl⟩
      have hp : PP E s H locs I12 := by rw [e13]; exact hp
      have h := h I12 e13
      refine lv_aload_n hx hb dX8_swap_55 rfl (lv_at hl 1 rfl) ?_
      refine f_X8_7 X hp dX8_swap_56 ?_
      refine lv_bipush (v := (nI 8)) hx hb dX8_swap_59 (by decide) ?_
      have hv14 := h.1
      have h := h.2
      refine al_i X hp ar_s316 hv14 dX8_swap_61 ?_
      exact rt_i X hp h dX8_swap_62
    · have h := h.2 c3
      refine lv_ldc (v := (-nI 1000002)) hx hb hown (hts _ tw_k_X8_144) dX8_swap_18 ?_
      exact rt_i X hp h dX8_swap_20
set_option maxRecDepth 100000 in
theorem C_X8_swap {E : EE} {l : Launch} {I : II} {Q : Int32 → II → Prop} (h : wp_X8_swap I Q) : Met l yX8_swap (Cond.code yX8_swap cX8_swap 2 (some .int) :: lwT) rmX8_swap (va_Pc [.ref (E.2.1 315)] (PU E I)) (va_Qi Q (BU E) E.2.2.2.1) 0 0 E.2.2.2.1 :=
  ofWalk [.ref (E.2.1 315)] (by decide) tw_c_X8_swap (Nat.le_of_ble_eq_true rfl) (fun p e s m below meth c ls X hp hl => w_X8_swap_0 X _ _ _ _ h hp hl)
abbrev rmX8_teller : Room := { frames := 2, cells := 0, slots := 0, locals := 46 }
theorem vf_X8_teller : VF yX8_teller RX8 cX8_teller 3 (some .int) 2 := ⟨tw_in_X8, tw_im_X8_teller, tw_se_X8_teller, tw_c_X8_teller, by decide, by decide, by decide +kernel⟩
def wp_X8_teller (x1 : Int32) (x2 : Int32) (I : II) (Q : Int32 → II → Prop) : Prop := (wp_X8_isTeller x1 I (fun r2 I1 => ((¬ r2 = 0 → ((x2 = (nI 0) → (vp_in ((nI 33) + x1) 1372 ∧ (Q (I1 316 ((nI 33) + x1).toNatClampNeg) I1))) ∧ (x2 = (nI 1) → (vp_in ((nI 37) + x1) 1372 ∧ (Q (I1 316 ((nI 37) + x1).toNatClampNeg) I1))) ∧ (x2 = (nI 2) → (vp_in ((nI 41) + x1) 1372 ∧ (Q (I1 316 ((nI 41) + x1).toNatClampNeg) I1))) ∧ (x2 = (nI 3) → (vp_in (nI 6) 1372 ∧ (Q (((I1 316 (nI 6).toNatClampNeg) >>> (x1 &&& 31)) &&& (nI 1)) I1))) ∧ (x2 = (nI 4) → (vp_in ((nI 45) + x1) 1372 ∧ (Q (I1 316 ((nI 45) + x1).toNatClampNeg) I1))) ∧ (¬ x2 = (nI 0) → ¬ x2 = (nI 1) → ¬ x2 = (nI 2) → ¬ x2 = (nI 3) → ¬ x2 = (nI 4) → (Q (-nI 1000001) I1)))) ∧ (r2 = 0 → (Q (-nI 1000001) I1)))))
set_option maxHeartbeats 4000000 in
set_option maxRecDepth 100000 in
theorem w_X8_teller_0 {E : EE} {p : Program} {l : Launch} {e : Env} {s : State} {m : MethodId} {args : Array Value} {below : List Frame} {meth : Method} {c : Code} {Q : Int32 → II → Prop} (X : CX E p s m args meth c cX8_teller 3 (some .int) RX8) : ∀ (x1 : Int32) (x2 : Int32) (I : II) (H : Heap) (locs : List Loc) (ls : Array Slot), wp_X8_teller x1 x2 I Q → PP E s H locs I → lv_has ls 3 [(0, .ref (E.2.1 315)), (1, .int x1), (2, .int x2)] → W p l e rmX8_teller s m args below meth c H locs 0 0 (MQ below (va_Qi Q (BU E) E.2.2.2.1) args s 0 0 E.2.2.2.1) (F0 m 0 ls []) := by
  obtain ⟨⟨hx, hb, hml, hown, hts⟩, hr, hlk, hK, hST, hN⟩ := id X
  intro x1 x2 I H locs ls h hp hl
  unfold wp_X8_teller at h
  refine lv_aload_n hx hb dX8_teller_0 rfl (lv_at hl 0 rfl) ?_
  refine lv_iload_n hx hb dX8_teller_1 rfl (lv_at hl 1 rfl) ?_
  refine ki (kV (As := [.int x1]) (rest := []) X hp (C_X8_isTeller  h) tw_ml_X8_175 vf_X8_isTeller ⟨rfl, rfl, Nat.le_of_ble_eq_true rfl, Nat.le_of_ble_eq_true rfl⟩ (pr_rcv X hp (k := 315) (by decide) (ob_315 _) (q := (RX8, TX8, 18)) rfl) rfl hl.1 rfl (Nat.le_of_ble_eq_true rfl) dX8_teller_2) hp (fun r2 I1 H locs h hp => ?_)
  refine lv_if_ne (tgt := 11) hx hb dX8_teller_5 (by decide) (fun c3 => ?_) (fun c3 => ?_)
  · have h := h.1 c3
    refine lv_iload_n hx hb dX8_teller_11 rfl (lv_at hl 2 rfl) ?_
    by_cases c4 : x2 = (nI 0)
    · have h := h.1 c4
      refine lv_tableIn (off := 36) (tgt := 48) hx hb dX8_teller_12 (by rw [c4]; decide) (by rw [c4]; decide) (by rw [c4]; rfl) (by decide) ?_
      refine lv_aload_n hx hb dX8_teller_48 rfl (lv_at hl 0 rfl) ?_
      refine f_X8_7 X hp dX8_teller_49 ?_
      refine lv_bipush (v := (nI 33)) hx hb dX8_teller_52 (by decide) ?_
      refine lv_iload_n hx hb dX8_teller_54 rfl (lv_at hl 1 rfl) ?_
      refine lv_iadd hx hb dX8_teller_55 ?_
      have hv5 := h.1
      have h := h.2
      refine al_i X hp ar_s316 hv5 dX8_teller_56 ?_
      exact rt_i X hp h dX8_teller_57
    have h := h.2
    by_cases c6 : x2 = (nI 1)
    · have h := h.1 c6
      refine lv_tableIn (off := 46) (tgt := 58) hx hb dX8_teller_12 (by rw [c6]; decide) (by rw [c6]; decide) (by rw [c6]; rfl) (by decide) ?_
      refine lv_aload_n hx hb dX8_teller_58 rfl (lv_at hl 0 rfl) ?_
      refine f_X8_7 X hp dX8_teller_59 ?_
      refine lv_bipush (v := (nI 37)) hx hb dX8_teller_62 (by decide) ?_
      refine lv_iload_n hx hb dX8_teller_64 rfl (lv_at hl 1 rfl) ?_
      refine lv_iadd hx hb dX8_teller_65 ?_
      have hv7 := h.1
      have h := h.2
      refine al_i X hp ar_s316 hv7 dX8_teller_66 ?_
      exact rt_i X hp h dX8_teller_67
    have h := h.2
    by_cases c8 : x2 = (nI 2)
    · have h := h.1 c8
      refine lv_tableIn (off := 56) (tgt := 68) hx hb dX8_teller_12 (by rw [c8]; decide) (by rw [c8]; decide) (by rw [c8]; rfl) (by decide) ?_
      refine lv_aload_n hx hb dX8_teller_68 rfl (lv_at hl 0 rfl) ?_
      refine f_X8_7 X hp dX8_teller_69 ?_
      refine lv_bipush (v := (nI 41)) hx hb dX8_teller_72 (by decide) ?_
      refine lv_iload_n hx hb dX8_teller_74 rfl (lv_at hl 1 rfl) ?_
      refine lv_iadd hx hb dX8_teller_75 ?_
      have hv9 := h.1
      have h := h.2
      refine al_i X hp ar_s316 hv9 dX8_teller_76 ?_
      exact rt_i X hp h dX8_teller_77
    have h := h.2
    by_cases c10 : x2 = (nI 3)
    · have h := h.1 c10
      refine lv_tableIn (off := 66) (tgt := 78) hx hb dX8_teller_12 (by rw [c10]; decide) (by rw [c10]; decide) (by rw [c10]; rfl) (by decide) ?_
      refine lv_aload_n hx hb dX8_teller_78 rfl (lv_at hl 0 rfl) ?_
      refine f_X8_7 X hp dX8_teller_79 ?_
      refine lv_bipush (v := (nI 6)) hx hb dX8_teller_82 (by decide) ?_
      have hv11 := h.1
      have h := h.2
      refine al_i X hp ar_s316 hv11 dX8_teller_84 ?_
      refine lv_iload_n hx hb dX8_teller_85 rfl (lv_at hl 1 rfl) ?_
      refine lv_ishr hx hb dX8_teller_86 ?_
      refine lv_iconst (v := (nI 1)) hx hb dX8_teller_87 (by decide) ?_
      refine lv_iand hx hb dX8_teller_88 ?_
      exact rt_i X hp h dX8_teller_89
    have h := h.2
    by_cases c12 : x2 = (nI 4)
    · have h := h.1 c12
      refine lv_tableIn (off := 78) (tgt := 90) hx hb dX8_teller_12 (by rw [c12]; decide) (by rw [c12]; decide) (by rw [c12]; rfl) (by decide) ?_
      refine lv_aload_n hx hb dX8_teller_90 rfl (lv_at hl 0 rfl) ?_
      refine f_X8_7 X hp dX8_teller_91 ?_
      refine lv_bipush (v := (nI 45)) hx hb dX8_teller_94 (by decide) ?_
      refine lv_iload_n hx hb dX8_teller_96 rfl (lv_at hl 1 rfl) ?_
      refine lv_iadd hx hb dX8_teller_97 ?_
      have hv13 := h.1
      have h := h.2
      refine al_i X hp ar_s316 hv13 dX8_teller_98 ?_
      exact rt_i X hp h dX8_teller_99
    have h := h.2
    have h := h c4 c6 c8 c10 c12
    have e14 : x2.toInt ≠ 0 := fun q => c4 (Int32.toInt_inj.mp (q.trans (by decide)))
    have e15 : x2.toInt ≠ 1 := fun q => c6 (Int32.toInt_inj.mp (q.trans (by decide)))
    have e16 : x2.toInt ≠ 2 := fun q => c8 (Int32.toInt_inj.mp (q.trans (by decide)))
    have e17 : x2.toInt ≠ 3 := fun q => c10 (Int32.toInt_inj.mp (q.trans (by decide)))
    have e18 : x2.toInt ≠ 4 := fun q => c12 (Int32.toInt_inj.mp (q.trans (by decide)))
    refine lv_tableOut (tgt := 100) hx hb dX8_teller_12 (by omega) (by decide) ?_
    refine lv_ldc (v := (-nI 1000001)) hx hb hown (hts _ tw_k_X8_55) dX8_teller_100 ?_
    exact rt_i X hp h dX8_teller_102
  · have h := h.2 c3
    refine lv_ldc (v := (-nI 1000001)) hx hb hown (hts _ tw_k_X8_55) dX8_teller_8 ?_
    exact rt_i X hp h dX8_teller_10
set_option maxRecDepth 100000 in
theorem C_X8_teller {E : EE} {l : Launch} {x1 : Int32} {x2 : Int32} {I : II} {Q : Int32 → II → Prop} (h : wp_X8_teller x1 x2 I Q) : Met l yX8_teller (Cond.code yX8_teller cX8_teller 3 (some .int) :: lwT) rmX8_teller (va_Pc [.ref (E.2.1 315), .int x1, .int x2] (PU E I)) (va_Qi Q (BU E) E.2.2.2.1) 0 0 E.2.2.2.1 :=
  ofWalk [.ref (E.2.1 315), .int x1, .int x2] (by decide) tw_c_X8_teller (Nat.le_of_ble_eq_true rfl) (fun p e s m below meth c ls X hp hl => w_X8_teller_0 X _ _ _ _ _ _ h hp hl)
abbrev rmX8_isPaper : Room := { frames := 1, cells := 0, slots := 0, locals := 25 }
theorem vf_X8_isPaper : VF yX8_isPaper RX8 cX8_isPaper 2 (some .boolean) 1 := ⟨tw_in_X8, tw_im_X8_isPaper, tw_se_X8_isPaper, tw_c_X8_isPaper, by decide, by decide, by decide +kernel⟩
def wp_X8_isPaper (x1 : Int32) (I : II) (Q : Int32 → II → Prop) : Prop := (wp_X8_in x1.toInt64 (lN 0) (lN 6) I (fun r2 I1 => ((r2 = 0 → (Q (nI 0) I1)) ∧ (¬ r2 = 0 → (vp_in ((nI 22) + x1) 1372 ∧ (((I1 316 ((nI 22) + x1).toNatClampNeg) = (-nI 1) → (Q (nI 0) I1)) ∧ (¬ (I1 316 ((nI 22) + x1).toNatClampNeg) = (-nI 1) → (Q (nI 1) I1))))))))
set_option maxHeartbeats 4000000 in
set_option maxRecDepth 100000 in
theorem w_X8_isPaper_0 {E : EE} {p : Program} {l : Launch} {e : Env} {s : State} {m : MethodId} {args : Array Value} {below : List Frame} {meth : Method} {c : Code} {Q : Int32 → II → Prop} (X : CX E p s m args meth c cX8_isPaper 2 (some .boolean) RX8) : ∀ (x1 : Int32) (I : II) (H : Heap) (locs : List Loc) (ls : Array Slot), wp_X8_isPaper x1 I Q → PP E s H locs I → lv_has ls 2 [(0, .ref (E.2.1 315)), (1, .int x1)] → W p l e rmX8_isPaper s m args below meth c H locs 0 0 (MQ below (va_Qi Q (BU E) E.2.2.2.1) args s 0 0 E.2.2.2.1) (F0 m 0 ls []) := by
  obtain ⟨⟨hx, hb, hml, hown, hts⟩, hr, hlk, hK, hST, hN⟩ := id X
  intro x1 I H locs ls h hp hl
  unfold wp_X8_isPaper at h
  refine lv_iload_n hx hb dX8_isPaper_0 rfl (lv_at hl 1 rfl) ?_
  refine lv_i2l (v := x1.toInt64) hx hb dX8_isPaper_1 rfl ?_
  refine lv_lconst (v := (lN 0)) hx hb dX8_isPaper_2 (by decide) ?_
  refine lv_ldc2 (v := (lN 6)) hx hb hown (hts _ tw_kl_X8_186) dX8_isPaper_3 ?_
  refine ki (kS (As := [.long x1.toInt64, .long (lN 0), .long (lN 6)]) (rest := []) X hp (C_X8_in  h) tw_ml_X8_45 sf_X8_in ⟨rfl, rfl, Nat.le_of_ble_eq_true rfl, Nat.le_of_ble_eq_true rfl⟩ rfl hl.1 rfl (Nat.le_of_ble_eq_true rfl) dX8_isPaper_6) hp (fun r2 I1 H locs h hp => ?_)
  refine lv_if_eq (tgt := 29) hx hb dX8_isPaper_9 (by decide) (fun c3 => ?_) (fun c3 => ?_)
  · have h := h.1 c3
    refine lv_iconst (v := (nI 0)) hx hb dX8_isPaper_29 (by decide) ?_
    exact rt_z X hp ⟨Or.inl rfl, h⟩ dX8_isPaper_30
  · have h := h.2 c3
    refine lv_aload_n hx hb dX8_isPaper_12 rfl (lv_at hl 0 rfl) ?_
    refine f_X8_7 X hp dX8_isPaper_13 ?_
    refine lv_bipush (v := (nI 22)) hx hb dX8_isPaper_16 (by decide) ?_
    refine lv_iload_n hx hb dX8_isPaper_18 rfl (lv_at hl 1 rfl) ?_
    refine lv_iadd hx hb dX8_isPaper_19 ?_
    have hv4 := h.1
    have h := h.2
    refine al_i X hp ar_s316 hv4 dX8_isPaper_20 ?_
    refine lv_iconst (v := (-nI 1)) hx hb dX8_isPaper_21 (by decide) ?_
    refine lv_icmp_eq (tgt := 29) hx hb dX8_isPaper_22 (by decide) (fun c5 => ?_) (fun c5 => ?_)
    · have h := h.1 c5
      refine lv_iconst (v := (nI 0)) hx hb dX8_isPaper_29 (by decide) ?_
      exact rt_z X hp ⟨Or.inl rfl, h⟩ dX8_isPaper_30
    · have h := h.2 c5
      refine lv_iconst (v := (nI 1)) hx hb dX8_isPaper_25 (by decide) ?_
      refine lv_goto (tgt := 30) hx hb dX8_isPaper_26 (by decide) ?_
      exact rt_z X hp ⟨Or.inr rfl, h⟩ dX8_isPaper_30
set_option maxRecDepth 100000 in
theorem C_X8_isPaper {E : EE} {l : Launch} {x1 : Int32} {I : II} {Q : Int32 → II → Prop} (h : wp_X8_isPaper x1 I Q) : Met l yX8_isPaper (Cond.code yX8_isPaper cX8_isPaper 2 (some .boolean) :: lwT) rmX8_isPaper (va_Pc [.ref (E.2.1 315), .int x1] (PU E I)) (va_Qi Q (BU E) E.2.2.2.1) 0 0 E.2.2.2.1 :=
  ofWalk [.ref (E.2.1 315), .int x1] (by decide) tw_c_X8_isPaper (Nat.le_of_ble_eq_true rfl) (fun p e s m below meth c ls X hp hl => w_X8_isPaper_0 X _ _ _ _ _ h hp hl)
abbrev rmX8_placeOf : Room := { frames := 0, cells := 0, slots := 0, locals := 0 }
theorem vf_X8_placeOf : VF yX8_placeOf RX8 cX8_placeOf 4 (some .int) 1 := ⟨tw_in_X8, tw_im_X8_placeOf, tw_se_X8_placeOf, tw_c_X8_placeOf, by decide, by decide, by decide +kernel⟩
def wp_X8_placeOf_34 (Q : Int32 → II → Prop) (k5 : Int32 → Int32 → Int32 → II → Prop) (x1 : Int32) (x3 : Int32) (v0 : Int32) (I : II) : Prop := (k5 x1 v0 (x3 + (nI 1)) I)
set_option maxHeartbeats 4000000 in
set_option maxRecDepth 100000 in
theorem w_X8_placeOf_34 {E : EE} {p : Program} {l : Launch} {e : Env} {s : State} {m : MethodId} {args : Array Value} {below : List Frame} {meth : Method} {c : Code} {Q : Int32 → II → Prop} {k5 : Int32 → Int32 → Int32 → II → Prop} (X : CX E p s m args meth c cX8_placeOf 4 (some .int) RX8) (K5 : ∀ (x1 : Int32) (x2 : Int32) (x3 : Int32) (I : II) (H : Heap) (locs : List Loc) (ls : Array Slot), k5 x1 x2 x3 I → PP E s H locs I → lv_has ls 4 [(0, .ref (E.2.1 315)), (1, .int x1), (2, .int x2), (3, .int x3)] → W p l e rmX8_placeOf s m args below meth c H locs 0 0 (MQ below (va_Qi Q (BU E) E.2.2.2.1) args s 0 0 E.2.2.2.1) (F0 m 5 ls [])) : ∀ (x1 : Int32) (x3 : Int32) (v0 : Int32) (I : II) (H : Heap) (locs : List Loc) (ls : Array Slot), wp_X8_placeOf_34 Q k5 x1 x3 v0 I → PP E s H locs I → lv_has ls 4 [(0, .ref (E.2.1 315)), (1, .int x1), (3, .int x3)] → W p l e rmX8_placeOf s m args below meth c H locs 0 0 (MQ below (va_Qi Q (BU E) E.2.2.2.1) args s 0 0 E.2.2.2.1) (F0 m 34 ls [.int v0]) := by
  obtain ⟨⟨hx, hb, hml, hown, hts⟩, hr, hlk, hK, hST, hN⟩ := id X
  intro x1 x3 v0 I H locs ls h hp hl
  unfold wp_X8_placeOf_34 at h
  refine lv_istore_n (lv' := [(2, .int v0), (0, .ref (E.2.1 315)), (1, .int x1), (3, .int x3)]) hx hb dX8_placeOf_34 rfl hl (by decide) rfl (fun ls hl => ?_)
  refine lv_iinc (v := (x3 + (nI 1))) (lv' := [(3, .int (x3 + (nI 1))), (2, .int v0), (0, .ref (E.2.1 315)), (1, .int x1)]) hx hb dX8_placeOf_35 hl (k := 3) rfl rfl (by decide) rfl (fun ls hl => ?_)
  refine lv_goto (tgt := 5) hx hb dX8_placeOf_38 (by decide) ?_
  exact K5 _ _ _ _ _ _ _ h hp (lv_sub hl [2, 3, 1, 0] rfl)
def wp_X8_placeOf_5 (Q : Int32 → II → Prop) (k41 : Int32 → II → Prop) : Nat → Int32 → Int32 → Int32 → II → Prop
  | 0, _, _, _, _ => False
  | n + 1, x1, x2, x3, I => (vp_in (nI 7) 1372 ∧ (((I 316 (nI 7).toNatClampNeg) ≤ x3 → (k41 x2 I)) ∧ (¬ (I 316 (nI 7).toNatClampNeg) ≤ x3 → (vp_in ((nI 8) + x3) 1372 ∧ ((¬ (I 316 ((nI 8) + x3).toNatClampNeg) = x1 → (wp_X8_placeOf_34 Q (fun x1 x2 x3 I => wp_X8_placeOf_5 Q k41 n x1 x2 x3 I) x1 x3 x2 I)) ∧ ((I 316 ((nI 8) + x3).toNatClampNeg) = x1 → (wp_X8_placeOf_34 Q (fun x1 x2 x3 I => wp_X8_placeOf_5 Q k41 n x1 x2 x3 I) x1 x3 x3 I)))))))
set_option maxHeartbeats 4000000 in
set_option maxRecDepth 100000 in
theorem w_X8_placeOf_5 {E : EE} {p : Program} {l : Launch} {e : Env} {s : State} {m : MethodId} {args : Array Value} {below : List Frame} {meth : Method} {c : Code} {Q : Int32 → II → Prop} {k41 : Int32 → II → Prop} (X : CX E p s m args meth c cX8_placeOf 4 (some .int) RX8) (K41 : ∀ (x2 : Int32) (I : II) (H : Heap) (locs : List Loc) (ls : Array Slot), k41 x2 I → PP E s H locs I → lv_has ls 4 [(2, .int x2)] → W p l e rmX8_placeOf s m args below meth c H locs 0 0 (MQ below (va_Qi Q (BU E) E.2.2.2.1) args s 0 0 E.2.2.2.1) (F0 m 41 ls [])) : ∀ (n : Nat) (x1 : Int32) (x2 : Int32) (x3 : Int32) (I : II) (H : Heap) (locs : List Loc) (ls : Array Slot), wp_X8_placeOf_5 Q k41 n x1 x2 x3 I → PP E s H locs I → lv_has ls 4 [(0, .ref (E.2.1 315)), (1, .int x1), (2, .int x2), (3, .int x3)] → W p l e rmX8_placeOf s m args below meth c H locs 0 0 (MQ below (va_Qi Q (BU E) E.2.2.2.1) args s 0 0 E.2.2.2.1) (F0 m 5 ls []) := by
  obtain ⟨⟨hx, hb, hml, hown, hts⟩, hr, hlk, hK, hST, hN⟩ := id X
  intro n
  induction n with
  | zero =>
    intro x1 x2 x3 I H locs ls h hp hl
    exact False.elim h
  | succ n ih =>
    intro x1 x2 x3 I H locs ls h hp hl
    rw [wp_X8_placeOf_5.eq_2] at h
    refine lv_iload_n hx hb dX8_placeOf_5 rfl (lv_at hl 3 rfl) ?_
    refine lv_aload_n hx hb dX8_placeOf_6 rfl (lv_at hl 0 rfl) ?_
    refine f_X8_7 X hp dX8_placeOf_7 ?_
    refine lv_bipush (v := (nI 7)) hx hb dX8_placeOf_10 (by decide) ?_
    have hv1 := h.1
    have h := h.2
    refine al_i X hp ar_s316 hv1 dX8_placeOf_12 ?_
    refine lv_icmp_ge (tgt := 41) hx hb dX8_placeOf_13 (by decide) (fun c2 => ?_) (fun c2 => ?_)
    · have h := h.1 c2
      exact K41 _ _ _ _ _ h hp (lv_sub hl [2] rfl)
    · have h := h.2 c2
      refine lv_aload_n hx hb dX8_placeOf_16 rfl (lv_at hl 0 rfl) ?_
      refine f_X8_7 X hp dX8_placeOf_17 ?_
      refine lv_bipush (v := (nI 8)) hx hb dX8_placeOf_20 (by decide) ?_
      refine lv_iload_n hx hb dX8_placeOf_22 rfl (lv_at hl 3 rfl) ?_
      refine lv_iadd hx hb dX8_placeOf_23 ?_
      have hv3 := h.1
      have h := h.2
      refine al_i X hp ar_s316 hv3 dX8_placeOf_24 ?_
      refine lv_iload_n hx hb dX8_placeOf_25 rfl (lv_at hl 1 rfl) ?_
      refine lv_icmp_ne (tgt := 33) hx hb dX8_placeOf_26 (by decide) (fun c4 => ?_) (fun c4 => ?_)
      · have h := h.1 c4
        refine lv_iload_n hx hb dX8_placeOf_33 rfl (lv_at hl 2 rfl) ?_
        exact w_X8_placeOf_34 X ih _ _ _ _ _ _ _ h hp (lv_sub hl [0, 1, 3] rfl)
      · have h := h.2 c4
        refine lv_iload_n hx hb dX8_placeOf_29 rfl (lv_at hl 3 rfl) ?_
        refine lv_goto (tgt := 34) hx hb dX8_placeOf_30 (by decide) ?_
        exact w_X8_placeOf_34 X ih _ _ _ _ _ _ _ h hp (lv_sub hl [0, 1, 3] rfl)
def wp_X8_placeOf (x1 : Int32) (I : II) (Q : Int32 → II → Prop) : Prop := (∃ n51, wp_X8_placeOf_5 Q (fun x2 I => (Q x2 I)) n51 x1 (-nI 1000000) (nI 0) I)
set_option maxHeartbeats 4000000 in
set_option maxRecDepth 100000 in
theorem w_X8_placeOf_0 {E : EE} {p : Program} {l : Launch} {e : Env} {s : State} {m : MethodId} {args : Array Value} {below : List Frame} {meth : Method} {c : Code} {Q : Int32 → II → Prop} (X : CX E p s m args meth c cX8_placeOf 4 (some .int) RX8) : ∀ (x1 : Int32) (I : II) (H : Heap) (locs : List Loc) (ls : Array Slot), wp_X8_placeOf x1 I Q → PP E s H locs I → lv_has ls 4 [(0, .ref (E.2.1 315)), (1, .int x1)] → W p l e rmX8_placeOf s m args below meth c H locs 0 0 (MQ below (va_Qi Q (BU E) E.2.2.2.1) args s 0 0 E.2.2.2.1) (F0 m 0 ls []) := by
  obtain ⟨⟨hx, hb, hml, hown, hts⟩, hr, hlk, hK, hST, hN⟩ := id X
  intro x1 I H locs ls h hp hl
  unfold wp_X8_placeOf at h
  refine lv_ldc (v := (-nI 1000000)) hx hb hown (hts _ tw_k_X8_149) dX8_placeOf_0 ?_
  refine lv_istore_n (lv' := [(2, .int (-nI 1000000)), (0, .ref (E.2.1 315)), (1, .int x1)]) hx hb dX8_placeOf_2 rfl hl (by decide) rfl (fun ls hl => ?_)
  refine lv_iconst (v := (nI 0)) hx hb dX8_placeOf_3 (by decide) ?_
  refine lv_istore_n (lv' := [(3, .int (nI 0)), (2, .int (-nI 1000000)), (0, .ref (E.2.1 315)), (1, .int x1)]) hx hb dX8_placeOf_4 rfl hl (by decide) rfl (fun ls hl => ?_)
  obtain ⟨n51, h⟩ := h
  refine w_X8_placeOf_5 X ?_ n51 _ _ _ _ _ _ _ h hp (lv_sub hl [2, 3, 1, 0] rfl)
  · intro x2 I H locs ls h hp hl
    refine lv_iload_n hx hb dX8_placeOf_41 rfl (lv_at hl 0 rfl) ?_
    exact rt_i X hp h dX8_placeOf_42
set_option maxRecDepth 100000 in
theorem C_X8_placeOf {E : EE} {l : Launch} {x1 : Int32} {I : II} {Q : Int32 → II → Prop} (h : wp_X8_placeOf x1 I Q) : Met l yX8_placeOf (Cond.code yX8_placeOf cX8_placeOf 4 (some .int) :: lwT) rmX8_placeOf (va_Pc [.ref (E.2.1 315), .int x1] (PU E I)) (va_Qi Q (BU E) E.2.2.2.1) 0 0 E.2.2.2.1 :=
  ofWalk [.ref (E.2.1 315), .int x1] (by decide) tw_c_X8_placeOf (Nat.le_of_ble_eq_true rfl) (fun p e s m below meth c ls X hp hl => w_X8_placeOf_0 X _ _ _ _ _ h hp hl)
abbrev rmX8_paper : Room := { frames := 2, cells := 0, slots := 0, locals := 46 }
theorem vf_X8_paper : VF yX8_paper RX8 cX8_paper 3 (some .int) 2 := ⟨tw_in_X8, tw_im_X8_paper, tw_se_X8_paper, tw_c_X8_paper, by decide, by decide, by decide +kernel⟩
def wp_X8_paper (x1 : Int32) (x2 : Int32) (I : II) (Q : Int32 → II → Prop) : Prop := (wp_X8_isPaper x1 I (fun r2 I1 => ((r2 = 0 → (Q (-nI 1000001) I1)) ∧ (¬ r2 = 0 → (wp_X8_in x2.toInt64 (lN 0) (lN 2) I1 (fun r5 I4 => ((¬ r5 = 0 → ((¬ x2 = 0 → ((¬ x2 = (nI 1) → (wp_X8_placeOf x1 I4 (fun r10 I9 => (Q r10 I9)))) ∧ (x2 = (nI 1) → (vp_in ((nI 22) + x1) 1372 ∧ (Q (I4 316 ((nI 22) + x1).toNatClampNeg) I4))))) ∧ (x2 = 0 → (vp_in ((nI 15) + x1) 1372 ∧ (Q (I4 316 ((nI 15) + x1).toNatClampNeg) I4))))) ∧ (r5 = 0 → (Q (-nI 1000001) I4)))))))))
set_option maxHeartbeats 4000000 in
set_option maxRecDepth 100000 in
theorem w_X8_paper_0 {E : EE} {p : Program} {l : Launch} {e : Env} {s : State} {m : MethodId} {args : Array Value} {below : List Frame} {meth : Method} {c : Code} {Q : Int32 → II → Prop} (X : CX E p s m args meth c cX8_paper 3 (some .int) RX8) : ∀ (x1 : Int32) (x2 : Int32) (I : II) (H : Heap) (locs : List Loc) (ls : Array Slot), wp_X8_paper x1 x2 I Q → PP E s H locs I → lv_has ls 3 [(0, .ref (E.2.1 315)), (1, .int x1), (2, .int x2)] → W p l e rmX8_paper s m args below meth c H locs 0 0 (MQ below (va_Qi Q (BU E) E.2.2.2.1) args s 0 0 E.2.2.2.1) (F0 m 0 ls []) := by
  obtain ⟨⟨hx, hb, hml, hown, hts⟩, hr, hlk, hK, hST, hN⟩ := id X
  intro x1 x2 I H locs ls h hp hl
  unfold wp_X8_paper at h
  refine lv_aload_n hx hb dX8_paper_0 rfl (lv_at hl 0 rfl) ?_
  refine lv_iload_n hx hb dX8_paper_1 rfl (lv_at hl 1 rfl) ?_
  refine ki (kV (As := [.int x1]) (rest := []) X hp (C_X8_isPaper  h) tw_ml_X8_188 vf_X8_isPaper ⟨rfl, rfl, Nat.le_of_ble_eq_true rfl, Nat.le_of_ble_eq_true rfl⟩ (pr_rcv X hp (k := 315) (by decide) (ob_315 _) (q := (RX8, TX8, 18)) rfl) rfl hl.1 rfl (Nat.le_of_ble_eq_true rfl) dX8_paper_2) hp (fun r2 I1 H locs h hp => ?_)
  refine lv_if_eq (tgt := 20) hx hb dX8_paper_5 (by decide) (fun c3 => ?_) (fun c3 => ?_)
  · have h := h.1 c3
    refine lv_ldc (v := (-nI 1000001)) hx hb hown (hts _ tw_k_X8_55) dX8_paper_20 ?_
    exact rt_i X hp h dX8_paper_22
  · have h := h.2 c3
    refine lv_iload_n hx hb dX8_paper_8 rfl (lv_at hl 2 rfl) ?_
    refine lv_i2l (v := x2.toInt64) hx hb dX8_paper_9 rfl ?_
    refine lv_lconst (v := (lN 0)) hx hb dX8_paper_10 (by decide) ?_
    refine lv_ldc2 (v := (lN 2)) hx hb hown (hts _ tw_kl_X8_53) dX8_paper_11 ?_
    refine ki (kS (As := [.long x2.toInt64, .long (lN 0), .long (lN 2)]) (rest := []) X hp (C_X8_in  h) tw_ml_X8_45 sf_X8_in ⟨rfl, rfl, Nat.le_of_ble_eq_true rfl, Nat.le_of_ble_eq_true rfl⟩ rfl hl.1 rfl (Nat.le_of_ble_eq_true rfl) dX8_paper_14) hp (fun r5 I4 H locs h hp => ?_)
    refine lv_if_ne (tgt := 23) hx hb dX8_paper_17 (by decide) (fun c6 => ?_) (fun c6 => ?_)
    · have h := h.1 c6
      refine lv_iload_n hx hb dX8_paper_23 rfl (lv_at hl 2 rfl) ?_
      refine lv_if_ne (tgt := 39) hx hb dX8_paper_24 (by decide) (fun c7 => ?_) (fun c7 => ?_)
      · have h := h.1 c7
        refine lv_iload_n hx hb dX8_paper_39 rfl (lv_at hl 2 rfl) ?_
        refine lv_iconst (v := (nI 1)) hx hb dX8_paper_40 (by decide) ?_
        refine lv_icmp_ne (tgt := 56) hx hb dX8_paper_41 (by decide) (fun c8 => ?_) (fun c8 => ?_)
        · have h := h.1 c8
          refine lv_aload_n hx hb dX8_paper_56 rfl (lv_at hl 0 rfl) ?_
          refine lv_iload_n hx hb dX8_paper_57 rfl (lv_at hl 1 rfl) ?_
          refine ki (kV (As := [.int x1]) (rest := []) X hp (C_X8_placeOf  h) tw_ml_X8_191 vf_X8_placeOf ⟨rfl, rfl, Nat.le_of_ble_eq_true rfl, Nat.le_of_ble_eq_true rfl⟩ (pr_rcv X hp (k := 315) (by decide) (ob_315 _) (q := (RX8, TX8, 18)) rfl) rfl hl.1 rfl (Nat.le_of_ble_eq_true rfl) dX8_paper_58) hp (fun r10 I9 H locs h hp => ?_)
          exact rt_i X hp h dX8_paper_61
        · have h := h.2 c8
          refine lv_aload_n hx hb dX8_paper_44 rfl (lv_at hl 0 rfl) ?_
          refine f_X8_7 X hp dX8_paper_45 ?_
          refine lv_bipush (v := (nI 22)) hx hb dX8_paper_48 (by decide) ?_
          refine lv_iload_n hx hb dX8_paper_50 rfl (lv_at hl 1 rfl) ?_
          refine lv_iadd hx hb dX8_paper_51 ?_
          have hv11 := h.1
          have h := h.2
          refine al_i X hp ar_s316 hv11 dX8_paper_52 ?_
          refine lv_goto (tgt := 61) hx hb dX8_paper_53 (by decide) ?_
          exact rt_i X hp h dX8_paper_61
      · have h := h.2 c7
        refine lv_aload_n hx hb dX8_paper_27 rfl (lv_at hl 0 rfl) ?_
        refine f_X8_7 X hp dX8_paper_28 ?_
        refine lv_bipush (v := (nI 15)) hx hb dX8_paper_31 (by decide) ?_
        refine lv_iload_n hx hb dX8_paper_33 rfl (lv_at hl 1 rfl) ?_
        refine lv_iadd hx hb dX8_paper_34 ?_
        have hv12 := h.1
        have h := h.2
        refine al_i X hp ar_s316 hv12 dX8_paper_35 ?_
        refine lv_goto (tgt := 61) hx hb dX8_paper_36 (by decide) ?_
        exact rt_i X hp h dX8_paper_61
    · have h := h.2 c6
      refine lv_ldc (v := (-nI 1000001)) hx hb hown (hts _ tw_k_X8_55) dX8_paper_20 ?_
      exact rt_i X hp h dX8_paper_22
set_option maxRecDepth 100000 in
theorem C_X8_paper {E : EE} {l : Launch} {x1 : Int32} {x2 : Int32} {I : II} {Q : Int32 → II → Prop} (h : wp_X8_paper x1 x2 I Q) : Met l yX8_paper (Cond.code yX8_paper cX8_paper 3 (some .int) :: lwT) rmX8_paper (va_Pc [.ref (E.2.1 315), .int x1, .int x2] (PU E I)) (va_Qi Q (BU E) E.2.2.2.1) 0 0 E.2.2.2.1 :=
  ofWalk [.ref (E.2.1 315), .int x1, .int x2] (by decide) tw_c_X8_paper (Nat.le_of_ble_eq_true rfl) (fun p e s m below meth c ls X hp hl => w_X8_paper_0 X _ _ _ _ _ _ h hp hl)
abbrev rmX8_cost : Room := { frames := 2, cells := 0, slots := 0, locals := 46 }
theorem vf_X8_cost : VF yX8_cost RX8 cX8_cost 3 (some .int) 2 := ⟨tw_in_X8, tw_im_X8_cost, tw_se_X8_cost, tw_c_X8_cost, by decide, by decide, by decide +kernel⟩
def wp_X8_cost (x1 : Int32) (x2 : Int32) (I : II) (Q : Int32 → II → Prop) : Prop := (wp_X8_isTeller x1 I (fun r2 I1 => ((r2 = 0 → (Q (-nI 1000001) I1)) ∧ (¬ r2 = 0 → (wp_X8_in x2.toInt64 (lN 1) (lN 30) I1 (fun r5 I4 => ((r5 = 0 → (Q (-nI 1000001) I4)) ∧ (¬ r5 = 0 → (wp_X8_costOf (nI 0) x1 x2 I4 (fun r8 I7 => (Q r8 I7)))))))))))
set_option maxHeartbeats 4000000 in
set_option maxRecDepth 100000 in
theorem w_X8_cost_0 {E : EE} {p : Program} {l : Launch} {e : Env} {s : State} {m : MethodId} {args : Array Value} {below : List Frame} {meth : Method} {c : Code} {Q : Int32 → II → Prop} (X : CX E p s m args meth c cX8_cost 3 (some .int) RX8) : ∀ (x1 : Int32) (x2 : Int32) (I : II) (H : Heap) (locs : List Loc) (ls : Array Slot), wp_X8_cost x1 x2 I Q → PP E s H locs I → lv_has ls 3 [(0, .ref (E.2.1 315)), (1, .int x1), (2, .int x2)] → W p l e rmX8_cost s m args below meth c H locs 0 0 (MQ below (va_Qi Q (BU E) E.2.2.2.1) args s 0 0 E.2.2.2.1) (F0 m 0 ls []) := by
  obtain ⟨⟨hx, hb, hml, hown, hts⟩, hr, hlk, hK, hST, hN⟩ := id X
  intro x1 x2 I H locs ls h hp hl
  unfold wp_X8_cost at h
  refine lv_aload_n hx hb dX8_cost_0 rfl (lv_at hl 0 rfl) ?_
  refine lv_iload_n hx hb dX8_cost_1 rfl (lv_at hl 1 rfl) ?_
  refine ki (kV (As := [.int x1]) (rest := []) X hp (C_X8_isTeller  h) tw_ml_X8_175 vf_X8_isTeller ⟨rfl, rfl, Nat.le_of_ble_eq_true rfl, Nat.le_of_ble_eq_true rfl⟩ (pr_rcv X hp (k := 315) (by decide) (ob_315 _) (q := (RX8, TX8, 18)) rfl) rfl hl.1 rfl (Nat.le_of_ble_eq_true rfl) dX8_cost_2) hp (fun r2 I1 H locs h hp => ?_)
  refine lv_if_eq (tgt := 30) hx hb dX8_cost_5 (by decide) (fun c3 => ?_) (fun c3 => ?_)
  · have h := h.1 c3
    refine lv_ldc (v := (-nI 1000001)) hx hb hown (hts _ tw_k_X8_55) dX8_cost_30 ?_
    exact rt_i X hp h dX8_cost_32
  · have h := h.2 c3
    refine lv_iload_n hx hb dX8_cost_8 rfl (lv_at hl 2 rfl) ?_
    refine lv_i2l (v := x2.toInt64) hx hb dX8_cost_9 rfl ?_
    refine lv_lconst (v := (lN 1)) hx hb dX8_cost_10 (by decide) ?_
    refine lv_ldc2 (v := (lN 30)) hx hb hown (hts _ tw_kl_X8_181) dX8_cost_11 ?_
    refine ki (kS (As := [.long x2.toInt64, .long (lN 1), .long (lN 30)]) (rest := []) X hp (C_X8_in  h) tw_ml_X8_45 sf_X8_in ⟨rfl, rfl, Nat.le_of_ble_eq_true rfl, Nat.le_of_ble_eq_true rfl⟩ rfl hl.1 rfl (Nat.le_of_ble_eq_true rfl) dX8_cost_14) hp (fun r5 I4 H locs h hp => ?_)
    refine lv_if_eq (tgt := 30) hx hb dX8_cost_17 (by decide) (fun c6 => ?_) (fun c6 => ?_)
    · have h := h.1 c6
      refine lv_ldc (v := (-nI 1000001)) hx hb hown (hts _ tw_k_X8_55) dX8_cost_30 ?_
      exact rt_i X hp h dX8_cost_32
    · have h := h.2 c6
      refine lv_aload_n hx hb dX8_cost_20 rfl (lv_at hl 0 rfl) ?_
      refine lv_iconst (v := (nI 0)) hx hb dX8_cost_21 (by decide) ?_
      refine lv_iload_n hx hb dX8_cost_22 rfl (lv_at hl 1 rfl) ?_
      refine lv_iload_n hx hb dX8_cost_23 rfl (lv_at hl 2 rfl) ?_
      refine ki (kV (As := [.int (nI 0), .int x1, .int x2]) (rest := []) X hp (C_X8_costOf  h) tw_ml_X8_145 vf_X8_costOf ⟨rfl, rfl, Nat.le_of_ble_eq_true rfl, Nat.le_of_ble_eq_true rfl⟩ (pr_rcv X hp (k := 315) (by decide) (ob_315 _) (q := (RX8, TX8, 18)) rfl) rfl hl.1 rfl (Nat.le_of_ble_eq_true rfl) dX8_cost_24) hp (fun r8 I7 H locs h hp => ?_)
      refine lv_goto (tgt := 32) hx hb dX8_cost_27 (by decide) ?_
      exact rt_i X hp h dX8_cost_32
set_option maxRecDepth 100000 in
theorem C_X8_cost {E : EE} {l : Launch} {x1 : Int32} {x2 : Int32} {I : II} {Q : Int32 → II → Prop} (h : wp_X8_cost x1 x2 I Q) : Met l yX8_cost (Cond.code yX8_cost cX8_cost 3 (some .int) :: lwT) rmX8_cost (va_Pc [.ref (E.2.1 315), .int x1, .int x2] (PU E I)) (va_Qi Q (BU E) E.2.2.2.1) 0 0 E.2.2.2.1 :=
  ofWalk [.ref (E.2.1 315), .int x1, .int x2] (by decide) tw_c_X8_cost (Nat.le_of_ble_eq_true rfl) (fun p e s m below meth c ls X hp hl => w_X8_cost_0 X _ _ _ _ _ _ h hp hl)
abbrev rmX8_queue : Room := { frames := 0, cells := 0, slots := 0, locals := 0 }
theorem vf_X8_queue : VF yX8_queue RX8 cX8_queue 2 (some .int) 1 := ⟨tw_in_X8, tw_im_X8_queue, tw_se_X8_queue, tw_c_X8_queue, by decide, by decide, by decide +kernel⟩
def wp_X8_queue (x1 : Int32) (I : II) (Q : Int32 → II → Prop) : Prop := ((¬ (I 315 1) = 0 → ((0 ≤ x1 → (vp_in (nI 7) 1372 ∧ (((I 316 (nI 7).toNatClampNeg) ≤ x1 → (Q (-nI 1000000) I)) ∧ (¬ (I 316 (nI 7).toNatClampNeg) ≤ x1 → (vp_in ((nI 8) + x1) 1372 ∧ (Q (I 316 ((nI 8) + x1).toNatClampNeg) I)))))) ∧ (¬ 0 ≤ x1 → (Q (-nI 1000001) I)))) ∧ ((I 315 1) = 0 → (Q (-nI 1000002) I)))
set_option maxHeartbeats 4000000 in
set_option maxRecDepth 100000 in
theorem w_X8_queue_0 {E : EE} {p : Program} {l : Launch} {e : Env} {s : State} {m : MethodId} {args : Array Value} {below : List Frame} {meth : Method} {c : Code} {Q : Int32 → II → Prop} (X : CX E p s m args meth c cX8_queue 2 (some .int) RX8) : ∀ (x1 : Int32) (I : II) (H : Heap) (locs : List Loc) (ls : Array Slot), wp_X8_queue x1 I Q → PP E s H locs I → lv_has ls 2 [(0, .ref (E.2.1 315)), (1, .int x1)] → W p l e rmX8_queue s m args below meth c H locs 0 0 (MQ below (va_Qi Q (BU E) E.2.2.2.1) args s 0 0 E.2.2.2.1) (F0 m 0 ls []) := by
  obtain ⟨⟨hx, hb, hml, hown, hts⟩, hr, hlk, hK, hST, hN⟩ := id X
  intro x1 I H locs ls h hp hl
  unfold wp_X8_queue at h
  refine lv_aload_n hx hb dX8_queue_0 rfl (lv_at hl 0 rfl) ?_
  refine f_X8_137 X hp dX8_queue_1 ?_
  refine lv_if_ne (tgt := 10) hx hb dX8_queue_4 (by decide) (fun c1 => ?_) (fun c1 => ?_)
  · have h := h.1 c1
    refine lv_iload_n hx hb dX8_queue_10 rfl (lv_at hl 1 rfl) ?_
    refine lv_if_ge (tgt := 19) hx hb dX8_queue_11 (by decide) (fun c2 => ?_) (fun c2 => ?_)
    · have h := h.1 c2
      refine lv_iload_n hx hb dX8_queue_19 rfl (lv_at hl 1 rfl) ?_
      refine lv_aload_n hx hb dX8_queue_20 rfl (lv_at hl 0 rfl) ?_
      refine f_X8_7 X hp dX8_queue_21 ?_
      refine lv_bipush (v := (nI 7)) hx hb dX8_queue_24 (by decide) ?_
      have hv3 := h.1
      have h := h.2
      refine al_i X hp ar_s316 hv3 dX8_queue_26 ?_
      refine lv_icmp_ge (tgt := 42) hx hb dX8_queue_27 (by decide) (fun c4 => ?_) (fun c4 => ?_)
      · have h := h.1 c4
        refine lv_ldc (v := (-nI 1000000)) hx hb hown (hts _ tw_k_X8_149) dX8_queue_42 ?_
        exact rt_i X hp h dX8_queue_44
      · have h := h.2 c4
        refine lv_aload_n hx hb dX8_queue_30 rfl (lv_at hl 0 rfl) ?_
        refine f_X8_7 X hp dX8_queue_31 ?_
        refine lv_bipush (v := (nI 8)) hx hb dX8_queue_34 (by decide) ?_
        refine lv_iload_n hx hb dX8_queue_36 rfl (lv_at hl 1 rfl) ?_
        refine lv_iadd hx hb dX8_queue_37 ?_
        have hv5 := h.1
        have h := h.2
        refine al_i X hp ar_s316 hv5 dX8_queue_38 ?_
        refine lv_goto (tgt := 44) hx hb dX8_queue_39 (by decide) ?_
        exact rt_i X hp h dX8_queue_44
    · have h := h.2 c2
      refine lv_ldc (v := (-nI 1000001)) hx hb hown (hts _ tw_k_X8_55) dX8_queue_14 ?_
      refine lv_goto (tgt := 44) hx hb dX8_queue_16 (by decide) ?_
      exact rt_i X hp h dX8_queue_44
  · have h := h.2 c1
    refine lv_ldc (v := (-nI 1000002)) hx hb hown (hts _ tw_k_X8_144) dX8_queue_7 ?_
    exact rt_i X hp h dX8_queue_9
set_option maxRecDepth 100000 in
theorem C_X8_queue {E : EE} {l : Launch} {x1 : Int32} {I : II} {Q : Int32 → II → Prop} (h : wp_X8_queue x1 I Q) : Met l yX8_queue (Cond.code yX8_queue cX8_queue 2 (some .int) :: lwT) rmX8_queue (va_Pc [.ref (E.2.1 315), .int x1] (PU E I)) (va_Qi Q (BU E) E.2.2.2.1) 0 0 E.2.2.2.1 :=
  ofWalk [.ref (E.2.1 315), .int x1] (by decide) tw_c_X8_queue (Nat.le_of_ble_eq_true rfl) (fun p e s m below meth c ls X hp hl => w_X8_queue_0 X _ _ _ _ _ h hp hl)
abbrev rmX8_layTried : Room := { frames := 5, cells := 0, slots := 0, locals := 120 }
theorem vf_X8_layTried : VF yX8_layTried RX8 cX8_layTried 2 none 1 := ⟨tw_in_X8, tw_im_X8_layTried, tw_se_X8_layTried, tw_c_X8_layTried, by decide, by decide, by decide +kernel⟩
def wp_X8_layTried (x1 : Int32) (I : II) (Q : II → Prop) : Prop := (wp_X8_copyTown (nI 0) (nI 1323) I (fun I1 => (wp_X8_passes (nI 1323) x1 I1 (fun I3 => (Q I3)))))
set_option maxHeartbeats 4000000 in
set_option maxRecDepth 100000 in
theorem w_X8_layTried_0 {E : EE} {p : Program} {l : Launch} {e : Env} {s : State} {m : MethodId} {args : Array Value} {below : List Frame} {meth : Method} {c : Code} {Q : II → Prop} (X : CX E p s m args meth c cX8_layTried 2 none RX8) : ∀ (x1 : Int32) (I : II) (H : Heap) (locs : List Loc) (ls : Array Slot), wp_X8_layTried x1 I Q → PP E s H locs I → lv_has ls 2 [(0, .ref (E.2.1 315)), (1, .int x1)] → W p l e rmX8_layTried s m args below meth c H locs 0 0 (MQ below (va_Qv Q (BU E) E.2.2.2.1) args s 0 0 E.2.2.2.1) (F0 m 0 ls []) := by
  obtain ⟨⟨hx, hb, hml, hown, hts⟩, hr, hlk, hK, hST, hN⟩ := id X
  intro x1 I H locs ls h hp hl
  unfold wp_X8_layTried at h
  refine lv_aload_n hx hb dX8_layTried_0 rfl (lv_at hl 0 rfl) ?_
  refine lv_iconst (v := (nI 0)) hx hb dX8_layTried_1 (by decide) ?_
  refine lv_sipush (v := (nI 1323)) hx hb dX8_layTried_2 (by decide) ?_
  refine kv (kV (As := [.int (nI 0), .int (nI 1323)]) (rest := []) X hp (C_X8_copyTown  h) tw_ml_X8_133 vf_X8_copyTown ⟨rfl, rfl, Nat.le_of_ble_eq_true rfl, Nat.le_of_ble_eq_true rfl⟩ (pr_rcv X hp (k := 315) (by decide) (ob_315 _) (q := (RX8, TX8, 18)) rfl) rfl hl.1 rfl (Nat.le_of_ble_eq_true rfl) dX8_layTried_5) hp (fun I1 H locs h hp => ?_)
  refine lv_aload_n hx hb dX8_layTried_8 rfl (lv_at hl 0 rfl) ?_
  refine lv_sipush (v := (nI 1323)) hx hb dX8_layTried_9 (by decide) ?_
  refine lv_iload_n hx hb dX8_layTried_12 rfl (lv_at hl 1 rfl) ?_
  refine kv (kV (As := [.int (nI 1323), .int x1]) (rest := []) X hp (C_X8_passes  h) tw_ml_X8_194 vf_X8_passes ⟨rfl, rfl, Nat.le_of_ble_eq_true rfl, Nat.le_of_ble_eq_true rfl⟩ (pr_rcv X hp (k := 315) (by decide) (ob_315 _) (q := (RX8, TX8, 18)) rfl) rfl hl.1 rfl (Nat.le_of_ble_eq_true rfl) dX8_layTried_13) hp (fun I3 H locs h hp => ?_)
  exact rt_v X hp h dX8_layTried_16
set_option maxRecDepth 100000 in
theorem C_X8_layTried {E : EE} {l : Launch} {x1 : Int32} {I : II} {Q : II → Prop} (h : wp_X8_layTried x1 I Q) : Met l yX8_layTried (Cond.code yX8_layTried cX8_layTried 2 none :: lwT) rmX8_layTried (va_Pc [.ref (E.2.1 315), .int x1] (PU E I)) (va_Qv Q (BU E) E.2.2.2.1) 0 0 E.2.2.2.1 :=
  ofWalk [.ref (E.2.1 315), .int x1] (by decide) tw_c_X8_layTried (Nat.le_of_ble_eq_true rfl) (fun p e s m below meth c ls X hp hl => w_X8_layTried_0 X _ _ _ _ _ h hp hl)
abbrev rmX8_ahead : Room := { frames := 6, cells := 0, slots := 0, locals := 141 }
theorem vf_X8_ahead : VF yX8_ahead RX8 cX8_ahead 3 (some .int) 2 := ⟨tw_in_X8, tw_im_X8_ahead, tw_se_X8_ahead, tw_c_X8_ahead, by decide, by decide, by decide +kernel⟩
def wp_X8_ahead (x1 : Int32) (x2 : Int32) (I : II) (Q : Int32 → II → Prop) : Prop := (wp_X8_isTeller x1 I (fun r2 I1 => ((r2 = 0 → (Q (-nI 1000001) I1)) ∧ (¬ r2 = 0 → (wp_X8_in x2.toInt64 (lN 0) (lN 60) I1 (fun r5 I4 => ((¬ r5 = 0 → (wp_X8_layTried x2 I4 (fun I7 => (vp_in ((nI 1364) + x1) 1372 ∧ (Q (I7 316 ((nI 1364) + x1).toNatClampNeg) I7))))) ∧ (r5 = 0 → (Q (-nI 1000001) I4)))))))))
set_option maxHeartbeats 4000000 in
set_option maxRecDepth 100000 in
theorem w_X8_ahead_0 {E : EE} {p : Program} {l : Launch} {e : Env} {s : State} {m : MethodId} {args : Array Value} {below : List Frame} {meth : Method} {c : Code} {Q : Int32 → II → Prop} (X : CX E p s m args meth c cX8_ahead 3 (some .int) RX8) : ∀ (x1 : Int32) (x2 : Int32) (I : II) (H : Heap) (locs : List Loc) (ls : Array Slot), wp_X8_ahead x1 x2 I Q → PP E s H locs I → lv_has ls 3 [(0, .ref (E.2.1 315)), (1, .int x1), (2, .int x2)] → W p l e rmX8_ahead s m args below meth c H locs 0 0 (MQ below (va_Qi Q (BU E) E.2.2.2.1) args s 0 0 E.2.2.2.1) (F0 m 0 ls []) := by
  obtain ⟨⟨hx, hb, hml, hown, hts⟩, hr, hlk, hK, hST, hN⟩ := id X
  intro x1 x2 I H locs ls h hp hl
  unfold wp_X8_ahead at h
  refine lv_aload_n hx hb dX8_ahead_0 rfl (lv_at hl 0 rfl) ?_
  refine lv_iload_n hx hb dX8_ahead_1 rfl (lv_at hl 1 rfl) ?_
  refine ki (kV (As := [.int x1]) (rest := []) X hp (C_X8_isTeller  h) tw_ml_X8_175 vf_X8_isTeller ⟨rfl, rfl, Nat.le_of_ble_eq_true rfl, Nat.le_of_ble_eq_true rfl⟩ (pr_rcv X hp (k := 315) (by decide) (ob_315 _) (q := (RX8, TX8, 18)) rfl) rfl hl.1 rfl (Nat.le_of_ble_eq_true rfl) dX8_ahead_2) hp (fun r2 I1 H locs h hp => ?_)
  refine lv_if_eq (tgt := 20) hx hb dX8_ahead_5 (by decide) (fun c3 => ?_) (fun c3 => ?_)
  · have h := h.1 c3
    refine lv_ldc (v := (-nI 1000001)) hx hb hown (hts _ tw_k_X8_55) dX8_ahead_20 ?_
    exact rt_i X hp h dX8_ahead_22
  · have h := h.2 c3
    refine lv_iload_n hx hb dX8_ahead_8 rfl (lv_at hl 2 rfl) ?_
    refine lv_i2l (v := x2.toInt64) hx hb dX8_ahead_9 rfl ?_
    refine lv_lconst (v := (lN 0)) hx hb dX8_ahead_10 (by decide) ?_
    refine lv_ldc2 (v := (lN 60)) hx hb hown (hts _ tw_kl_X8_197) dX8_ahead_11 ?_
    refine ki (kS (As := [.long x2.toInt64, .long (lN 0), .long (lN 60)]) (rest := []) X hp (C_X8_in  h) tw_ml_X8_45 sf_X8_in ⟨rfl, rfl, Nat.le_of_ble_eq_true rfl, Nat.le_of_ble_eq_true rfl⟩ rfl hl.1 rfl (Nat.le_of_ble_eq_true rfl) dX8_ahead_14) hp (fun r5 I4 H locs h hp => ?_)
    refine lv_if_ne (tgt := 23) hx hb dX8_ahead_17 (by decide) (fun c6 => ?_) (fun c6 => ?_)
    · have h := h.1 c6
      refine lv_aload_n hx hb dX8_ahead_23 rfl (lv_at hl 0 rfl) ?_
      refine lv_iload_n hx hb dX8_ahead_24 rfl (lv_at hl 2 rfl) ?_
      refine kv (kV (As := [.int x2]) (rest := []) X hp (C_X8_layTried  h) tw_ml_X8_199 vf_X8_layTried ⟨rfl, rfl, Nat.le_of_ble_eq_true rfl, Nat.le_of_ble_eq_true rfl⟩ (pr_rcv X hp (k := 315) (by decide) (ob_315 _) (q := (RX8, TX8, 18)) rfl) rfl hl.1 rfl (Nat.le_of_ble_eq_true rfl) dX8_ahead_25) hp (fun I7 H locs h hp => ?_)
      refine lv_aload_n hx hb dX8_ahead_28 rfl (lv_at hl 0 rfl) ?_
      refine f_X8_7 X hp dX8_ahead_29 ?_
      refine lv_sipush (v := (nI 1364)) hx hb dX8_ahead_32 (by decide) ?_
      refine lv_iload_n hx hb dX8_ahead_35 rfl (lv_at hl 1 rfl) ?_
      refine lv_iadd hx hb dX8_ahead_36 ?_
      have hv9 := h.1
      have h := h.2
      refine al_i X hp ar_s316 hv9 dX8_ahead_37 ?_
      exact rt_i X hp h dX8_ahead_38
    · have h := h.2 c6
      refine lv_ldc (v := (-nI 1000001)) hx hb hown (hts _ tw_k_X8_55) dX8_ahead_20 ?_
      exact rt_i X hp h dX8_ahead_22
set_option maxRecDepth 100000 in
theorem C_X8_ahead {E : EE} {l : Launch} {x1 : Int32} {x2 : Int32} {I : II} {Q : Int32 → II → Prop} (h : wp_X8_ahead x1 x2 I Q) : Met l yX8_ahead (Cond.code yX8_ahead cX8_ahead 3 (some .int) :: lwT) rmX8_ahead (va_Pc [.ref (E.2.1 315), .int x1, .int x2] (PU E I)) (va_Qi Q (BU E) E.2.2.2.1) 0 0 E.2.2.2.1 :=
  ofWalk [.ref (E.2.1 315), .int x1, .int x2] (by decide) tw_c_X8_ahead (Nat.le_of_ble_eq_true rfl) (fun p e s m below meth c ls X hp hl => w_X8_ahead_0 X _ _ _ _ _ _ h hp hl)
abbrev rmX8_waiting : Room := { frames := 6, cells := 0, slots := 0, locals := 141 }
theorem vf_X8_waiting : VF yX8_waiting RX8 cX8_waiting 4 (some .int) 1 := ⟨tw_in_X8, tw_im_X8_waiting, tw_se_X8_waiting, tw_c_X8_waiting, by decide, by decide, by decide +kernel⟩
def wp_X8_waiting_34 (Q : Int32 → II → Prop) (k67 : Int32 → II → Prop) : Nat → Int32 → Int32 → II → Prop
  | 0, _, _, _ => False
  | n + 1, x2, x3, I => (vp_in (nI 1330) 1372 ∧ (((I 316 (nI 1330).toNatClampNeg) ≤ x3 → (k67 x2 I)) ∧ (¬ (I 316 (nI 1330).toNatClampNeg) ≤ x3 → (vp_in ((nI 1331) + x3) 1372 ∧ (wp_X8_waiting_34 Q k67 n (x2 ||| ((nI 1) <<< ((I 316 ((nI 1331) + x3).toNatClampNeg) &&& 31))) (x3 + (nI 1)) I)))))
set_option maxHeartbeats 4000000 in
set_option maxRecDepth 100000 in
theorem w_X8_waiting_34 {E : EE} {p : Program} {l : Launch} {e : Env} {s : State} {m : MethodId} {args : Array Value} {below : List Frame} {meth : Method} {c : Code} {Q : Int32 → II → Prop} {k67 : Int32 → II → Prop} (X : CX E p s m args meth c cX8_waiting 4 (some .int) RX8) (K67 : ∀ (x2 : Int32) (I : II) (H : Heap) (locs : List Loc) (ls : Array Slot), k67 x2 I → PP E s H locs I → lv_has ls 4 [(2, .int x2)] → W p l e rmX8_waiting s m args below meth c H locs 0 0 (MQ below (va_Qi Q (BU E) E.2.2.2.1) args s 0 0 E.2.2.2.1) (F0 m 67 ls [])) : ∀ (n : Nat) (x2 : Int32) (x3 : Int32) (I : II) (H : Heap) (locs : List Loc) (ls : Array Slot), wp_X8_waiting_34 Q k67 n x2 x3 I → PP E s H locs I → lv_has ls 4 [(0, .ref (E.2.1 315)), (2, .int x2), (3, .int x3)] → W p l e rmX8_waiting s m args below meth c H locs 0 0 (MQ below (va_Qi Q (BU E) E.2.2.2.1) args s 0 0 E.2.2.2.1) (F0 m 34 ls []) := by
  obtain ⟨⟨hx, hb, hml, hown, hts⟩, hr, hlk, hK, hST, hN⟩ := id X
  intro n
  induction n with
  | zero =>
    intro x2 x3 I H locs ls h hp hl
    exact False.elim h
  | succ n ih =>
    intro x2 x3 I H locs ls h hp hl
    rw [wp_X8_waiting_34.eq_2] at h
    refine lv_iload_n hx hb dX8_waiting_34 rfl (lv_at hl 2 rfl) ?_
    refine lv_aload_n hx hb dX8_waiting_35 rfl (lv_at hl 0 rfl) ?_
    refine f_X8_7 X hp dX8_waiting_36 ?_
    refine lv_sipush (v := (nI 1330)) hx hb dX8_waiting_39 (by decide) ?_
    have hv1 := h.1
    have h := h.2
    refine al_i X hp ar_s316 hv1 dX8_waiting_42 ?_
    refine lv_icmp_ge (tgt := 67) hx hb dX8_waiting_43 (by decide) (fun c2 => ?_) (fun c2 => ?_)
    · have h := h.1 c2
      exact K67 _ _ _ _ _ h hp (lv_sub hl [1] rfl)
    · have h := h.2 c2
      refine lv_iload_n hx hb dX8_waiting_46 rfl (lv_at hl 1 rfl) ?_
      refine lv_iconst (v := (nI 1)) hx hb dX8_waiting_47 (by decide) ?_
      refine lv_aload_n hx hb dX8_waiting_48 rfl (lv_at hl 0 rfl) ?_
      refine f_X8_7 X hp dX8_waiting_49 ?_
      refine lv_sipush (v := (nI 1331)) hx hb dX8_waiting_52 (by decide) ?_
      refine lv_iload_n hx hb dX8_waiting_55 rfl (lv_at hl 2 rfl) ?_
      refine lv_iadd hx hb dX8_waiting_56 ?_
      have hv3 := h.1
      have h := h.2
      refine al_i X hp ar_s316 hv3 dX8_waiting_57 ?_
      refine lv_ishl hx hb dX8_waiting_58 ?_
      refine lv_ior hx hb dX8_waiting_59 ?_
      refine lv_istore_n (lv' := [(2, .int (x2 ||| ((nI 1) <<< ((I 316 ((nI 1331) + x3).toNatClampNeg) &&& 31)))), (0, .ref (E.2.1 315)), (3, .int x3)]) hx hb dX8_waiting_60 rfl hl (by decide) rfl (fun ls hl => ?_)
      refine lv_iinc (v := (x3 + (nI 1))) (lv' := [(3, .int (x3 + (nI 1))), (2, .int (x2 ||| ((nI 1) <<< ((I 316 ((nI 1331) + x3).toNatClampNeg) &&& 31)))), (0, .ref (E.2.1 315))]) hx hb dX8_waiting_61 hl (k := 2) rfl rfl (by decide) rfl (fun ls hl => ?_)
      refine lv_goto (tgt := 34) hx hb dX8_waiting_64 (by decide) ?_
      exact ih _ _ _ _ _ _ h hp (lv_sub hl [2, 1, 0] rfl)
def wp_X8_waiting (x1 : Int32) (I : II) (Q : Int32 → II → Prop) : Prop := ((¬ (I 315 1) = 0 → (wp_X8_in x1.toInt64 (lN 0) (lN 60) I (fun r3 I2 => ((¬ r3 = 0 → (wp_X8_layTried x1 I2 (fun I5 => (∃ n57, wp_X8_waiting_34 Q (fun x2 I => (Q x2 I)) n57 (nI 0) (nI 0) I5)))) ∧ (r3 = 0 → (Q (-nI 1000001) I2)))))) ∧ ((I 315 1) = 0 → (Q (-nI 1000002) I)))
set_option maxHeartbeats 4000000 in
set_option maxRecDepth 100000 in
theorem w_X8_waiting_0 {E : EE} {p : Program} {l : Launch} {e : Env} {s : State} {m : MethodId} {args : Array Value} {below : List Frame} {meth : Method} {c : Code} {Q : Int32 → II → Prop} (X : CX E p s m args meth c cX8_waiting 4 (some .int) RX8) : ∀ (x1 : Int32) (I : II) (H : Heap) (locs : List Loc) (ls : Array Slot), wp_X8_waiting x1 I Q → PP E s H locs I → lv_has ls 4 [(0, .ref (E.2.1 315)), (1, .int x1)] → W p l e rmX8_waiting s m args below meth c H locs 0 0 (MQ below (va_Qi Q (BU E) E.2.2.2.1) args s 0 0 E.2.2.2.1) (F0 m 0 ls []) := by
  obtain ⟨⟨hx, hb, hml, hown, hts⟩, hr, hlk, hK, hST, hN⟩ := id X
  intro x1 I H locs ls h hp hl
  unfold wp_X8_waiting at h
  refine lv_aload_n hx hb dX8_waiting_0 rfl (lv_at hl 0 rfl) ?_
  refine f_X8_137 X hp dX8_waiting_1 ?_
  refine lv_if_ne (tgt := 10) hx hb dX8_waiting_4 (by decide) (fun c1 => ?_) (fun c1 => ?_)
  · have h := h.1 c1
    refine lv_iload_n hx hb dX8_waiting_10 rfl (lv_at hl 1 rfl) ?_
    refine lv_i2l (v := x1.toInt64) hx hb dX8_waiting_11 rfl ?_
    refine lv_lconst (v := (lN 0)) hx hb dX8_waiting_12 (by decide) ?_
    refine lv_ldc2 (v := (lN 60)) hx hb hown (hts _ tw_kl_X8_197) dX8_waiting_13 ?_
    refine ki (kS (As := [.long x1.toInt64, .long (lN 0), .long (lN 60)]) (rest := []) X hp (C_X8_in  h) tw_ml_X8_45 sf_X8_in ⟨rfl, rfl, Nat.le_of_ble_eq_true rfl, Nat.le_of_ble_eq_true rfl⟩ rfl hl.1 rfl (Nat.le_of_ble_eq_true rfl) dX8_waiting_16) hp (fun r3 I2 H locs h hp => ?_)
    refine lv_if_ne (tgt := 25) hx hb dX8_waiting_19 (by decide) (fun c4 => ?_) (fun c4 => ?_)
    · have h := h.1 c4
      refine lv_aload_n hx hb dX8_waiting_25 rfl (lv_at hl 0 rfl) ?_
      refine lv_iload_n hx hb dX8_waiting_26 rfl (lv_at hl 1 rfl) ?_
      refine kv (kV (As := [.int x1]) (rest := []) X hp (C_X8_layTried  h) tw_ml_X8_199 vf_X8_layTried ⟨rfl, rfl, Nat.le_of_ble_eq_true rfl, Nat.le_of_ble_eq_true rfl⟩ (pr_rcv X hp (k := 315) (by decide) (ob_315 _) (q := (RX8, TX8, 18)) rfl) rfl hl.1 rfl (Nat.le_of_ble_eq_true rfl) dX8_waiting_27) hp (fun I5 H locs h hp => ?_)
      refine lv_iconst (v := (nI 0)) hx hb dX8_waiting_30 (by decide) ?_
      refine lv_istore_n (lv' := [(2, .int (nI 0)), (0, .ref (E.2.1 315)), (1, .int x1)]) hx hb dX8_waiting_31 rfl hl (by decide) rfl (fun ls hl => ?_)
      refine lv_iconst (v := (nI 0)) hx hb dX8_waiting_32 (by decide) ?_
      refine lv_istore_n (lv' := [(3, .int (nI 0)), (2, .int (nI 0)), (0, .ref (E.2.1 315)), (1, .int x1)]) hx hb dX8_waiting_33 rfl hl (by decide) rfl (fun ls hl => ?_)
      obtain ⟨n57, h⟩ := h
      refine w_X8_waiting_34 X ?_ n57 _ _ _ _ _ _ h hp (lv_sub hl [2, 1, 0] rfl)
      · intro x2 I H locs ls h hp hl
        refine lv_iload_n hx hb dX8_waiting_67 rfl (lv_at hl 0 rfl) ?_
        exact rt_i X hp h dX8_waiting_68
    · have h := h.2 c4
      refine lv_ldc (v := (-nI 1000001)) hx hb hown (hts _ tw_k_X8_55) dX8_waiting_22 ?_
      exact rt_i X hp h dX8_waiting_24
  · have h := h.2 c1
    refine lv_ldc (v := (-nI 1000002)) hx hb hown (hts _ tw_k_X8_144) dX8_waiting_7 ?_
    exact rt_i X hp h dX8_waiting_9
set_option maxRecDepth 100000 in
theorem C_X8_waiting {E : EE} {l : Launch} {x1 : Int32} {I : II} {Q : Int32 → II → Prop} (h : wp_X8_waiting x1 I Q) : Met l yX8_waiting (Cond.code yX8_waiting cX8_waiting 4 (some .int) :: lwT) rmX8_waiting (va_Pc [.ref (E.2.1 315), .int x1] (PU E I)) (va_Qi Q (BU E) E.2.2.2.1) 0 0 E.2.2.2.1 :=
  ofWalk [.ref (E.2.1 315), .int x1] (by decide) tw_c_X8_waiting (Nat.le_of_ble_eq_true rfl) (fun p e s m below meth c ls X hp hl => w_X8_waiting_0 X _ _ _ _ _ h hp hl)
abbrev rmX8_server : Room := { frames := 6, cells := 0, slots := 0, locals := 141 }
theorem vf_X8_server : VF yX8_server RX8 cX8_server 3 (some .int) 1 := ⟨tw_in_X8, tw_im_X8_server, tw_se_X8_server, tw_c_X8_server, by decide, by decide, by decide +kernel⟩
def wp_X8_server (x1 : Int32) (I : II) (Q : Int32 → II → Prop) : Prop := (wp_X8_isPaper x1 I (fun r2 I1 => ((¬ r2 = 0 → (wp_X8_placeOf x1 I1 (fun r5 I4 => ((¬ r5 = (-nI 1000000) → (wp_X8_layTried r5 I4 (fun I7 => (wp_X8_pass (nI 1323) I7 (fun r10 I9 => (Q r10 I9)))))) ∧ (r5 = (-nI 1000000) → (Q (-nI 1000002) I4)))))) ∧ (r2 = 0 → (Q (-nI 1000001) I1)))))
set_option maxHeartbeats 4000000 in
set_option maxRecDepth 100000 in
theorem w_X8_server_0 {E : EE} {p : Program} {l : Launch} {e : Env} {s : State} {m : MethodId} {args : Array Value} {below : List Frame} {meth : Method} {c : Code} {Q : Int32 → II → Prop} (X : CX E p s m args meth c cX8_server 3 (some .int) RX8) : ∀ (x1 : Int32) (I : II) (H : Heap) (locs : List Loc) (ls : Array Slot), wp_X8_server x1 I Q → PP E s H locs I → lv_has ls 3 [(0, .ref (E.2.1 315)), (1, .int x1)] → W p l e rmX8_server s m args below meth c H locs 0 0 (MQ below (va_Qi Q (BU E) E.2.2.2.1) args s 0 0 E.2.2.2.1) (F0 m 0 ls []) := by
  obtain ⟨⟨hx, hb, hml, hown, hts⟩, hr, hlk, hK, hST, hN⟩ := id X
  intro x1 I H locs ls h hp hl
  unfold wp_X8_server at h
  refine lv_aload_n hx hb dX8_server_0 rfl (lv_at hl 0 rfl) ?_
  refine lv_iload_n hx hb dX8_server_1 rfl (lv_at hl 1 rfl) ?_
  refine ki (kV (As := [.int x1]) (rest := []) X hp (C_X8_isPaper  h) tw_ml_X8_188 vf_X8_isPaper ⟨rfl, rfl, Nat.le_of_ble_eq_true rfl, Nat.le_of_ble_eq_true rfl⟩ (pr_rcv X hp (k := 315) (by decide) (ob_315 _) (q := (RX8, TX8, 18)) rfl) rfl hl.1 rfl (Nat.le_of_ble_eq_true rfl) dX8_server_2) hp (fun r2 I1 H locs h hp => ?_)
  refine lv_if_ne (tgt := 11) hx hb dX8_server_5 (by decide) (fun c3 => ?_) (fun c3 => ?_)
  · have h := h.1 c3
    refine lv_aload_n hx hb dX8_server_11 rfl (lv_at hl 0 rfl) ?_
    refine lv_iload_n hx hb dX8_server_12 rfl (lv_at hl 1 rfl) ?_
    refine ki (kV (As := [.int x1]) (rest := []) X hp (C_X8_placeOf  h) tw_ml_X8_191 vf_X8_placeOf ⟨rfl, rfl, Nat.le_of_ble_eq_true rfl, Nat.le_of_ble_eq_true rfl⟩ (pr_rcv X hp (k := 315) (by decide) (ob_315 _) (q := (RX8, TX8, 18)) rfl) rfl hl.1 rfl (Nat.le_of_ble_eq_true rfl) dX8_server_13) hp (fun r5 I4 H locs h hp => ?_)
    refine lv_istore_n (lv' := [(2, .int r5), (0, .ref (E.2.1 315)), (1, .int x1)]) hx hb dX8_server_16 rfl hl (by decide) rfl (fun ls hl => ?_)
    refine lv_iload_n hx hb dX8_server_17 rfl (lv_at hl 0 rfl) ?_
    refine lv_ldc (v := (-nI 1000000)) hx hb hown (hts _ tw_k_X8_149) dX8_server_18 ?_
    refine lv_icmp_ne (tgt := 26) hx hb dX8_server_20 (by decide) (fun c6 => ?_) (fun c6 => ?_)
    · have h := h.1 c6
      refine lv_aload_n hx hb dX8_server_26 rfl (lv_at hl 1 rfl) ?_
      refine lv_iload_n hx hb dX8_server_27 rfl (lv_at hl 0 rfl) ?_
      refine kv (kV (As := [.int r5]) (rest := []) X hp (C_X8_layTried  h) tw_ml_X8_199 vf_X8_layTried ⟨rfl, rfl, Nat.le_of_ble_eq_true rfl, Nat.le_of_ble_eq_true rfl⟩ (pr_rcv X hp (k := 315) (by decide) (ob_315 _) (q := (RX8, TX8, 18)) rfl) rfl hl.1 rfl (Nat.le_of_ble_eq_true rfl) dX8_server_28) hp (fun I7 H locs h hp => ?_)
      refine lv_aload_n hx hb dX8_server_31 rfl (lv_at hl 1 rfl) ?_
      refine lv_sipush (v := (nI 1323)) hx hb dX8_server_32 (by decide) ?_
      refine ki (kV (As := [.int (nI 1323)]) (rest := []) X hp (C_X8_pass  h) tw_ml_X8_167 vf_X8_pass ⟨rfl, rfl, Nat.le_of_ble_eq_true rfl, Nat.le_of_ble_eq_true rfl⟩ (pr_rcv X hp (k := 315) (by decide) (ob_315 _) (q := (RX8, TX8, 18)) rfl) rfl hl.1 rfl (Nat.le_of_ble_eq_true rfl) dX8_server_35) hp (fun r10 I9 H locs h hp => ?_)
      exact rt_i X hp h dX8_server_38
    · have h := h.2 c6
      refine lv_ldc (v := (-nI 1000002)) hx hb hown (hts _ tw_k_X8_144) dX8_server_23 ?_
      exact rt_i X hp h dX8_server_25
  · have h := h.2 c3
    refine lv_ldc (v := (-nI 1000001)) hx hb hown (hts _ tw_k_X8_55) dX8_server_8 ?_
    exact rt_i X hp h dX8_server_10
set_option maxRecDepth 100000 in
theorem C_X8_server {E : EE} {l : Launch} {x1 : Int32} {I : II} {Q : Int32 → II → Prop} (h : wp_X8_server x1 I Q) : Met l yX8_server (Cond.code yX8_server cX8_server 3 (some .int) :: lwT) rmX8_server (va_Pc [.ref (E.2.1 315), .int x1] (PU E I)) (va_Qi Q (BU E) E.2.2.2.1) 0 0 E.2.2.2.1 :=
  ofWalk [.ref (E.2.1 315), .int x1] (by decide) tw_c_X8_server (Nat.le_of_ble_eq_true rfl) (fun p e s m below meth c ls X hp hl => w_X8_server_0 X _ _ _ _ _ h hp hl)
abbrev rmX8_holds : Room := { frames := 6, cells := 0, slots := 0, locals := 141 }
theorem vf_X8_holds : VF yX8_holds RX8 cX8_holds 2 (some .int) 0 := ⟨tw_in_X8, tw_im_X8_holds, tw_se_X8_holds, tw_c_X8_holds, by decide, by decide, by decide +kernel⟩
def wp_X8_holds_17 (Q : Int32 → II → Prop) (k46 : Int32 → II → Prop) : Nat → Int32 → II → Prop
  | 0, _, _ => False
  | n + 1, x1, I => (vp_in (nI 7) 1372 ∧ (((I 316 (nI 7).toNatClampNeg) ≤ x1 → (k46 x1 I)) ∧ (¬ (I 316 (nI 7).toNatClampNeg) ≤ x1 → (wp_X8_pass (nI 1323) I (fun r4 I3 => ((r4 = (-nI 1000000) → (k46 x1 I3)) ∧ (¬ r4 = (-nI 1000000) → (wp_X8_holds_17 Q k46 n (x1 + (nI 1)) I3))))))))
set_option maxHeartbeats 4000000 in
set_option maxRecDepth 100000 in
theorem w_X8_holds_17 {E : EE} {p : Program} {l : Launch} {e : Env} {s : State} {m : MethodId} {args : Array Value} {below : List Frame} {meth : Method} {c : Code} {Q : Int32 → II → Prop} {k46 : Int32 → II → Prop} (X : CX E p s m args meth c cX8_holds 2 (some .int) RX8) (K46 : ∀ (x1 : Int32) (I : II) (H : Heap) (locs : List Loc) (ls : Array Slot), k46 x1 I → PP E s H locs I → lv_has ls 2 [(1, .int x1)] → W p l e rmX8_holds s m args below meth c H locs 0 0 (MQ below (va_Qi Q (BU E) E.2.2.2.1) args s 0 0 E.2.2.2.1) (F0 m 46 ls [])) : ∀ (n : Nat) (x1 : Int32) (I : II) (H : Heap) (locs : List Loc) (ls : Array Slot), wp_X8_holds_17 Q k46 n x1 I → PP E s H locs I → lv_has ls 2 [(0, .ref (E.2.1 315)), (1, .int x1)] → W p l e rmX8_holds s m args below meth c H locs 0 0 (MQ below (va_Qi Q (BU E) E.2.2.2.1) args s 0 0 E.2.2.2.1) (F0 m 17 ls []) := by
  obtain ⟨⟨hx, hb, hml, hown, hts⟩, hr, hlk, hK, hST, hN⟩ := id X
  intro n
  induction n with
  | zero =>
    intro x1 I H locs ls h hp hl
    exact False.elim h
  | succ n ih =>
    intro x1 I H locs ls h hp hl
    rw [wp_X8_holds_17.eq_2] at h
    refine lv_iload_n hx hb dX8_holds_17 rfl (lv_at hl 1 rfl) ?_
    refine lv_aload_n hx hb dX8_holds_18 rfl (lv_at hl 0 rfl) ?_
    refine f_X8_7 X hp dX8_holds_19 ?_
    refine lv_bipush (v := (nI 7)) hx hb dX8_holds_22 (by decide) ?_
    have hv1 := h.1
    have h := h.2
    refine al_i X hp ar_s316 hv1 dX8_holds_24 ?_
    refine lv_icmp_ge (tgt := 46) hx hb dX8_holds_25 (by decide) (fun c2 => ?_) (fun c2 => ?_)
    · have h := h.1 c2
      exact K46 _ _ _ _ _ h hp (lv_sub hl [1] rfl)
    · have h := h.2 c2
      refine lv_aload_n hx hb dX8_holds_28 rfl (lv_at hl 0 rfl) ?_
      refine lv_sipush (v := (nI 1323)) hx hb dX8_holds_29 (by decide) ?_
      refine ki (kV (As := [.int (nI 1323)]) (rest := []) X hp (C_X8_pass  h) tw_ml_X8_167 vf_X8_pass ⟨rfl, rfl, Nat.le_of_ble_eq_true rfl, Nat.le_of_ble_eq_true rfl⟩ (pr_rcv X hp (k := 315) (by decide) (ob_315 _) (q := (RX8, TX8, 18)) rfl) rfl hl.1 rfl (Nat.le_of_ble_eq_true rfl) dX8_holds_32) hp (fun r4 I3 H locs h hp => ?_)
      refine lv_ldc (v := (-nI 1000000)) hx hb hown (hts _ tw_k_X8_149) dX8_holds_35 ?_
      refine lv_icmp_eq (tgt := 46) hx hb dX8_holds_37 (by decide) (fun c5 => ?_) (fun c5 => ?_)
      · have h := h.1 c5
        exact K46 _ _ _ _ _ h hp (lv_sub hl [1] rfl)
      · have h := h.2 c5
        refine lv_iinc (v := (x1 + (nI 1))) (lv' := [(1, .int (x1 + (nI 1))), (0, .ref (E.2.1 315))]) hx hb dX8_holds_40 hl (k := 1) rfl rfl (by decide) rfl (fun ls hl => ?_)
        refine lv_goto (tgt := 17) hx hb dX8_holds_43 (by decide) ?_
        exact ih _ _ _ _ _ h hp (lv_sub hl [1, 0] rfl)
def wp_X8_holds (I : II) (Q : Int32 → II → Prop) : Prop := ((¬ (I 315 1) = 0 → (wp_X8_layTried (nI 0) I (fun I2 => (∃ n54, wp_X8_holds_17 Q (fun x1 I => (Q x1 I)) n54 (nI 0) I2)))) ∧ ((I 315 1) = 0 → (Q (-nI 1000002) I)))
set_option maxHeartbeats 4000000 in
set_option maxRecDepth 100000 in
theorem w_X8_holds_0 {E : EE} {p : Program} {l : Launch} {e : Env} {s : State} {m : MethodId} {args : Array Value} {below : List Frame} {meth : Method} {c : Code} {Q : Int32 → II → Prop} (X : CX E p s m args meth c cX8_holds 2 (some .int) RX8) : ∀ (I : II) (H : Heap) (locs : List Loc) (ls : Array Slot), wp_X8_holds I Q → PP E s H locs I → lv_has ls 2 [(0, .ref (E.2.1 315))] → W p l e rmX8_holds s m args below meth c H locs 0 0 (MQ below (va_Qi Q (BU E) E.2.2.2.1) args s 0 0 E.2.2.2.1) (F0 m 0 ls []) := by
  obtain ⟨⟨hx, hb, hml, hown, hts⟩, hr, hlk, hK, hST, hN⟩ := id X
  intro I H locs ls h hp hl
  unfold wp_X8_holds at h
  refine lv_aload_n hx hb dX8_holds_0 rfl (lv_at hl 0 rfl) ?_
  refine f_X8_137 X hp dX8_holds_1 ?_
  refine lv_if_ne (tgt := 10) hx hb dX8_holds_4 (by decide) (fun c1 => ?_) (fun c1 => ?_)
  · have h := h.1 c1
    refine lv_aload_n hx hb dX8_holds_10 rfl (lv_at hl 0 rfl) ?_
    refine lv_iconst (v := (nI 0)) hx hb dX8_holds_11 (by decide) ?_
    refine kv (kV (As := [.int (nI 0)]) (rest := []) X hp (C_X8_layTried  h) tw_ml_X8_199 vf_X8_layTried ⟨rfl, rfl, Nat.le_of_ble_eq_true rfl, Nat.le_of_ble_eq_true rfl⟩ (pr_rcv X hp (k := 315) (by decide) (ob_315 _) (q := (RX8, TX8, 18)) rfl) rfl hl.1 rfl (Nat.le_of_ble_eq_true rfl) dX8_holds_12) hp (fun I2 H locs h hp => ?_)
    refine lv_iconst (v := (nI 0)) hx hb dX8_holds_15 (by decide) ?_
    refine lv_istore_n (lv' := [(1, .int (nI 0)), (0, .ref (E.2.1 315))]) hx hb dX8_holds_16 rfl hl (by decide) rfl (fun ls hl => ?_)
    obtain ⟨n54, h⟩ := h
    refine w_X8_holds_17 X ?_ n54 _ _ _ _ _ h hp (lv_sub hl [1, 0] rfl)
    · intro x1 I H locs ls h hp hl
      refine lv_iload_n hx hb dX8_holds_46 rfl (lv_at hl 0 rfl) ?_
      exact rt_i X hp h dX8_holds_47
  · have h := h.2 c1
    refine lv_ldc (v := (-nI 1000002)) hx hb hown (hts _ tw_k_X8_144) dX8_holds_7 ?_
    exact rt_i X hp h dX8_holds_9
set_option maxRecDepth 100000 in
theorem C_X8_holds {E : EE} {l : Launch} {I : II} {Q : Int32 → II → Prop} (h : wp_X8_holds I Q) : Met l yX8_holds (Cond.code yX8_holds cX8_holds 2 (some .int) :: lwT) rmX8_holds (va_Pc [.ref (E.2.1 315)] (PU E I)) (va_Qi Q (BU E) E.2.2.2.1) 0 0 E.2.2.2.1 :=
  ofWalk [.ref (E.2.1 315)] (by decide) tw_c_X8_holds (Nat.le_of_ble_eq_true rfl) (fun p e s m below meth c ls X hp hl => w_X8_holds_0 X _ _ _ _ h hp hl)
abbrev rmX8_infant : Room := { frames := 6, cells := 0, slots := 0, locals := 141 }
theorem vf_X8_infant : VF yX8_infant RX8 cX8_infant 3 (some .int) 0 := ⟨tw_in_X8, tw_im_X8_infant, tw_se_X8_infant, tw_c_X8_infant, by decide, by decide, by decide +kernel⟩
def wp_X8_infant_30 (Q : Int32 → II → Prop) (k59 : Int32 → II → Prop) (k67 : Int32 → II → Prop) : Nat → Int32 → Int32 → II → Prop
  | 0, _, _, _ => False
  | n + 1, x1, x2, I => (vp_in (nI 0) 1372 ∧ (((I 316 (nI 0).toNatClampNeg) ≤ x2 → (k67 x1 I)) ∧ (¬ (I 316 (nI 0).toNatClampNeg) ≤ x2 → (vp_in ((nI 1364) + x2) 1372 ∧ (vp_in (nI 1) 1372 ∧ (((I 316 (nI 1).toNatClampNeg) < (I 316 ((nI 1364) + x2).toNatClampNeg) → (wp_X8_infant_30 Q k59 k67 n x1 (x2 + (nI 1)) I)) ∧ (¬ (I 316 (nI 1).toNatClampNeg) < (I 316 ((nI 1364) + x2).toNatClampNeg) → (k59 x2 I))))))))
set_option maxHeartbeats 4000000 in
set_option maxRecDepth 100000 in
theorem w_X8_infant_30 {E : EE} {p : Program} {l : Launch} {e : Env} {s : State} {m : MethodId} {args : Array Value} {below : List Frame} {meth : Method} {c : Code} {Q : Int32 → II → Prop} {k59 : Int32 → II → Prop} {k67 : Int32 → II → Prop} (X : CX E p s m args meth c cX8_infant 3 (some .int) RX8) (K59 : ∀ (x2 : Int32) (I : II) (H : Heap) (locs : List Loc) (ls : Array Slot), k59 x2 I → PP E s H locs I → lv_has ls 3 [(2, .int x2)] → W p l e rmX8_infant s m args below meth c H locs 0 0 (MQ below (va_Qi Q (BU E) E.2.2.2.1) args s 0 0 E.2.2.2.1) (F0 m 59 ls [])) (K67 : ∀ (x1 : Int32) (I : II) (H : Heap) (locs : List Loc) (ls : Array Slot), k67 x1 I → PP E s H locs I → lv_has ls 3 [(0, .ref (E.2.1 315)), (1, .int x1)] → W p l e rmX8_infant s m args below meth c H locs 0 0 (MQ below (va_Qi Q (BU E) E.2.2.2.1) args s 0 0 E.2.2.2.1) (F0 m 67 ls [])) : ∀ (n : Nat) (x1 : Int32) (x2 : Int32) (I : II) (H : Heap) (locs : List Loc) (ls : Array Slot), wp_X8_infant_30 Q k59 k67 n x1 x2 I → PP E s H locs I → lv_has ls 3 [(0, .ref (E.2.1 315)), (1, .int x1), (2, .int x2)] → W p l e rmX8_infant s m args below meth c H locs 0 0 (MQ below (va_Qi Q (BU E) E.2.2.2.1) args s 0 0 E.2.2.2.1) (F0 m 30 ls []) := by
  obtain ⟨⟨hx, hb, hml, hown, hts⟩, hr, hlk, hK, hST, hN⟩ := id X
  intro n
  induction n with
  | zero =>
    intro x1 x2 I H locs ls h hp hl
    exact False.elim h
  | succ n ih =>
    intro x1 x2 I H locs ls h hp hl
    rw [wp_X8_infant_30.eq_2] at h
    refine lv_iload_n hx hb dX8_infant_30 rfl (lv_at hl 2 rfl) ?_
    refine lv_aload_n hx hb dX8_infant_31 rfl (lv_at hl 0 rfl) ?_
    refine f_X8_7 X hp dX8_infant_32 ?_
    refine lv_iconst (v := (nI 0)) hx hb dX8_infant_35 (by decide) ?_
    have hv1 := h.1
    have h := h.2
    refine al_i X hp ar_s316 hv1 dX8_infant_36 ?_
    refine lv_icmp_ge (tgt := 67) hx hb dX8_infant_37 (by decide) (fun c2 => ?_) (fun c2 => ?_)
    · have h := h.1 c2
      exact K67 _ _ _ _ _ h hp (lv_sub hl [0, 1] rfl)
    · have h := h.2 c2
      refine lv_aload_n hx hb dX8_infant_40 rfl (lv_at hl 0 rfl) ?_
      refine f_X8_7 X hp dX8_infant_41 ?_
      refine lv_sipush (v := (nI 1364)) hx hb dX8_infant_44 (by decide) ?_
      refine lv_iload_n hx hb dX8_infant_47 rfl (lv_at hl 2 rfl) ?_
      refine lv_iadd hx hb dX8_infant_48 ?_
      have hv3 := h.1
      have h := h.2
      refine al_i X hp ar_s316 hv3 dX8_infant_49 ?_
      refine lv_aload_n hx hb dX8_infant_50 rfl (lv_at hl 0 rfl) ?_
      refine f_X8_7 X hp dX8_infant_51 ?_
      refine lv_iconst (v := (nI 1)) hx hb dX8_infant_54 (by decide) ?_
      have hv4 := h.1
      have h := h.2
      refine al_i X hp ar_s316 hv4 dX8_infant_55 ?_
      refine lv_icmp_gt (tgt := 61) hx hb dX8_infant_56 (by decide) (fun c5 => ?_) (fun c5 => ?_)
      · have h := h.1 c5
        refine lv_iinc (v := (x2 + (nI 1))) (lv' := [(2, .int (x2 + (nI 1))), (0, .ref (E.2.1 315)), (1, .int x1)]) hx hb dX8_infant_61 hl (k := 2) rfl rfl (by decide) rfl (fun ls hl => ?_)
        refine lv_goto (tgt := 30) hx hb dX8_infant_64 (by decide) ?_
        exact ih _ _ _ _ _ _ h hp (lv_sub hl [1, 2, 0] rfl)
      · have h := h.2 c5
        exact K59 _ _ _ _ _ h hp (lv_sub hl [2] rfl)
def wp_X8_infant_17 (Q : Int32 → II → Prop) (k59 : Int32 → II → Prop) (k81 : II → Prop) : Nat → Int32 → II → Prop
  | 0, _, _ => False
  | n + 1, x1, I => (vp_in (nI 7) 1372 ∧ (((I 316 (nI 7).toNatClampNeg) < x1 → (k81 I)) ∧ (¬ (I 316 (nI 7).toNatClampNeg) < x1 → (∃ n55, wp_X8_infant_30 Q k59 (fun x1 I => (wp_X8_pass (nI 1323) I (fun r54 I53 => (wp_X8_infant_17 Q k59 k81 n (x1 + (nI 1)) I53)))) n55 x1 (nI 0) I))))
set_option maxHeartbeats 4000000 in
set_option maxRecDepth 100000 in
theorem w_X8_infant_17 {E : EE} {p : Program} {l : Launch} {e : Env} {s : State} {m : MethodId} {args : Array Value} {below : List Frame} {meth : Method} {c : Code} {Q : Int32 → II → Prop} {k59 : Int32 → II → Prop} {k81 : II → Prop} (X : CX E p s m args meth c cX8_infant 3 (some .int) RX8) (K59 : ∀ (x2 : Int32) (I : II) (H : Heap) (locs : List Loc) (ls : Array Slot), k59 x2 I → PP E s H locs I → lv_has ls 3 [(2, .int x2)] → W p l e rmX8_infant s m args below meth c H locs 0 0 (MQ below (va_Qi Q (BU E) E.2.2.2.1) args s 0 0 E.2.2.2.1) (F0 m 59 ls [])) (K81 : ∀ (I : II) (H : Heap) (locs : List Loc) (ls : Array Slot), k81 I → PP E s H locs I → lv_has ls 3 [] → W p l e rmX8_infant s m args below meth c H locs 0 0 (MQ below (va_Qi Q (BU E) E.2.2.2.1) args s 0 0 E.2.2.2.1) (F0 m 81 ls [])) : ∀ (n : Nat) (x1 : Int32) (I : II) (H : Heap) (locs : List Loc) (ls : Array Slot), wp_X8_infant_17 Q k59 k81 n x1 I → PP E s H locs I → lv_has ls 3 [(0, .ref (E.2.1 315)), (1, .int x1)] → W p l e rmX8_infant s m args below meth c H locs 0 0 (MQ below (va_Qi Q (BU E) E.2.2.2.1) args s 0 0 E.2.2.2.1) (F0 m 17 ls []) := by
  obtain ⟨⟨hx, hb, hml, hown, hts⟩, hr, hlk, hK, hST, hN⟩ := id X
  intro n
  induction n with
  | zero =>
    intro x1 I H locs ls h hp hl
    exact False.elim h
  | succ n ih =>
    intro x1 I H locs ls h hp hl
    rw [wp_X8_infant_17.eq_2] at h
    refine lv_iload_n hx hb dX8_infant_17 rfl (lv_at hl 1 rfl) ?_
    refine lv_aload_n hx hb dX8_infant_18 rfl (lv_at hl 0 rfl) ?_
    refine f_X8_7 X hp dX8_infant_19 ?_
    refine lv_bipush (v := (nI 7)) hx hb dX8_infant_22 (by decide) ?_
    have hv1 := h.1
    have h := h.2
    refine al_i X hp ar_s316 hv1 dX8_infant_24 ?_
    refine lv_icmp_gt (tgt := 81) hx hb dX8_infant_25 (by decide) (fun c2 => ?_) (fun c2 => ?_)
    · have h := h.1 c2
      exact K81 _ _ _ _ h hp (lv_sub hl [] rfl)
    · have h := h.2 c2
      refine lv_iconst (v := (nI 0)) hx hb dX8_infant_28 (by decide) ?_
      refine lv_istore_n (lv' := [(2, .int (nI 0)), (0, .ref (E.2.1 315)), (1, .int x1)]) hx hb dX8_infant_29 rfl hl (by decide) rfl (fun ls hl => ?_)
      obtain ⟨n55, h⟩ := h
      refine w_X8_infant_30 X K59 ?_ n55 _ _ _ _ _ _ h hp (lv_sub hl [1, 2, 0] rfl)
      · intro x1 I H locs ls h hp hl
        refine lv_aload_n hx hb dX8_infant_67 rfl (lv_at hl 0 rfl) ?_
        refine lv_sipush (v := (nI 1323)) hx hb dX8_infant_68 (by decide) ?_
        refine ki (kV (As := [.int (nI 1323)]) (rest := []) X hp (C_X8_pass  h) tw_ml_X8_167 vf_X8_pass ⟨rfl, rfl, Nat.le_of_ble_eq_true rfl, Nat.le_of_ble_eq_true rfl⟩ (pr_rcv X hp (k := 315) (by decide) (ob_315 _) (q := (RX8, TX8, 18)) rfl) rfl hl.1 rfl (Nat.le_of_ble_eq_true rfl) dX8_infant_71) hp (fun r54 I53 H locs h hp => ?_)
        refine lv_pop hx hb dX8_infant_74 rfl ?_
        refine lv_iinc (v := (x1 + (nI 1))) (lv' := [(1, .int (x1 + (nI 1))), (0, .ref (E.2.1 315))]) hx hb dX8_infant_75 hl (k := 1) rfl rfl (by decide) rfl (fun ls hl => ?_)
        refine lv_goto (tgt := 17) hx hb dX8_infant_78 (by decide) ?_
        exact ih _ _ _ _ _ h hp (lv_sub hl [1, 0] rfl)
def wp_X8_infant (I : II) (Q : Int32 → II → Prop) : Prop := ((¬ (I 315 1) = 0 → (wp_X8_layTried (nI 0) I (fun I2 => (∃ n104, wp_X8_infant_17 Q (fun x2 I => (Q x2 I)) (fun I => (Q (-nI 1000000) I)) n104 (nI 0) I2)))) ∧ ((I 315 1) = 0 → (Q (-nI 1000002) I)))
set_option maxHeartbeats 4000000 in
set_option maxRecDepth 100000 in
theorem w_X8_infant_0 {E : EE} {p : Program} {l : Launch} {e : Env} {s : State} {m : MethodId} {args : Array Value} {below : List Frame} {meth : Method} {c : Code} {Q : Int32 → II → Prop} (X : CX E p s m args meth c cX8_infant 3 (some .int) RX8) : ∀ (I : II) (H : Heap) (locs : List Loc) (ls : Array Slot), wp_X8_infant I Q → PP E s H locs I → lv_has ls 3 [(0, .ref (E.2.1 315))] → W p l e rmX8_infant s m args below meth c H locs 0 0 (MQ below (va_Qi Q (BU E) E.2.2.2.1) args s 0 0 E.2.2.2.1) (F0 m 0 ls []) := by
  obtain ⟨⟨hx, hb, hml, hown, hts⟩, hr, hlk, hK, hST, hN⟩ := id X
  intro I H locs ls h hp hl
  unfold wp_X8_infant at h
  refine lv_aload_n hx hb dX8_infant_0 rfl (lv_at hl 0 rfl) ?_
  refine f_X8_137 X hp dX8_infant_1 ?_
  refine lv_if_ne (tgt := 10) hx hb dX8_infant_4 (by decide) (fun c1 => ?_) (fun c1 => ?_)
  · have h := h.1 c1
    refine lv_aload_n hx hb dX8_infant_10 rfl (lv_at hl 0 rfl) ?_
    refine lv_iconst (v := (nI 0)) hx hb dX8_infant_11 (by decide) ?_
    refine kv (kV (As := [.int (nI 0)]) (rest := []) X hp (C_X8_layTried  h) tw_ml_X8_199 vf_X8_layTried ⟨rfl, rfl, Nat.le_of_ble_eq_true rfl, Nat.le_of_ble_eq_true rfl⟩ (pr_rcv X hp (k := 315) (by decide) (ob_315 _) (q := (RX8, TX8, 18)) rfl) rfl hl.1 rfl (Nat.le_of_ble_eq_true rfl) dX8_infant_12) hp (fun I2 H locs h hp => ?_)
    refine lv_iconst (v := (nI 0)) hx hb dX8_infant_15 (by decide) ?_
    refine lv_istore_n (lv' := [(1, .int (nI 0)), (0, .ref (E.2.1 315))]) hx hb dX8_infant_16 rfl hl (by decide) rfl (fun ls hl => ?_)
    obtain ⟨n104, h⟩ := h
    refine w_X8_infant_17 X ?_ ?_ n104 _ _ _ _ _ h hp (lv_sub hl [1, 0] rfl)
    · intro x2 I H locs ls h hp hl
      refine lv_iload_n hx hb dX8_infant_59 rfl (lv_at hl 0 rfl) ?_
      exact rt_i X hp h dX8_infant_60
    · intro I H locs ls h hp hl
      refine lv_ldc (v := (-nI 1000000)) hx hb hown (hts _ tw_k_X8_149) dX8_infant_81 ?_
      exact rt_i X hp h dX8_infant_83
  · have h := h.2 c1
    refine lv_ldc (v := (-nI 1000002)) hx hb hown (hts _ tw_k_X8_144) dX8_infant_7 ?_
    exact rt_i X hp h dX8_infant_9
set_option maxRecDepth 100000 in
theorem C_X8_infant {E : EE} {l : Launch} {I : II} {Q : Int32 → II → Prop} (h : wp_X8_infant I Q) : Met l yX8_infant (Cond.code yX8_infant cX8_infant 3 (some .int) :: lwT) rmX8_infant (va_Pc [.ref (E.2.1 315)] (PU E I)) (va_Qi Q (BU E) E.2.2.2.1) 0 0 E.2.2.2.1 :=
  ofWalk [.ref (E.2.1 315)] (by decide) tw_c_X8_infant (Nat.le_of_ble_eq_true rfl) (fun p e s m below meth c ls X hp hl => w_X8_infant_0 X _ _ _ _ h hp hl)
abbrev rmX8_leftAt : Room := { frames := 0, cells := 0, slots := 0, locals := 0 }
theorem vf_X8_leftAt : VF yX8_leftAt RX8 cX8_leftAt 4 (some .int) 1 := ⟨tw_in_X8, tw_im_X8_leftAt, tw_se_X8_leftAt, tw_c_X8_leftAt, by decide, by decide, by decide +kernel⟩
def wp_X8_leftAt_4 (Q : Int32 → II → Prop) (k36 : Int32 → II → Prop) : Nat → Int32 → Int32 → Int32 → II → Prop
  | 0, _, _, _, _ => False
  | n + 1, x1, x2, x3, I => (vp_in (x1 + (nI 0)) 1372 ∧ (((I 316 (x1 + (nI 0)).toNatClampNeg) ≤ x3 → (k36 x2 I)) ∧ (¬ (I 316 (x1 + (nI 0)).toNatClampNeg) ≤ x3 → (vp_in ((x1 + (nI 41)) + x3) 1372 ∧ (wp_X8_leftAt_4 Q k36 n x1 (x2 + (I 316 ((x1 + (nI 41)) + x3).toNatClampNeg)) (x3 + (nI 1)) I)))))
set_option maxHeartbeats 4000000 in
set_option maxRecDepth 100000 in
theorem w_X8_leftAt_4 {E : EE} {p : Program} {l : Launch} {e : Env} {s : State} {m : MethodId} {args : Array Value} {below : List Frame} {meth : Method} {c : Code} {Q : Int32 → II → Prop} {k36 : Int32 → II → Prop} (X : CX E p s m args meth c cX8_leftAt 4 (some .int) RX8) (K36 : ∀ (x2 : Int32) (I : II) (H : Heap) (locs : List Loc) (ls : Array Slot), k36 x2 I → PP E s H locs I → lv_has ls 4 [(2, .int x2)] → W p l e rmX8_leftAt s m args below meth c H locs 0 0 (MQ below (va_Qi Q (BU E) E.2.2.2.1) args s 0 0 E.2.2.2.1) (F0 m 36 ls [])) : ∀ (n : Nat) (x1 : Int32) (x2 : Int32) (x3 : Int32) (I : II) (H : Heap) (locs : List Loc) (ls : Array Slot), wp_X8_leftAt_4 Q k36 n x1 x2 x3 I → PP E s H locs I → lv_has ls 4 [(0, .ref (E.2.1 315)), (1, .int x1), (2, .int x2), (3, .int x3)] → W p l e rmX8_leftAt s m args below meth c H locs 0 0 (MQ below (va_Qi Q (BU E) E.2.2.2.1) args s 0 0 E.2.2.2.1) (F0 m 4 ls []) := by
  obtain ⟨⟨hx, hb, hml, hown, hts⟩, hr, hlk, hK, hST, hN⟩ := id X
  intro n
  induction n with
  | zero =>
    intro x1 x2 x3 I H locs ls h hp hl
    exact False.elim h
  | succ n ih =>
    intro x1 x2 x3 I H locs ls h hp hl
    rw [wp_X8_leftAt_4.eq_2] at h
    refine lv_iload_n hx hb dX8_leftAt_4 rfl (lv_at hl 3 rfl) ?_
    refine lv_aload_n hx hb dX8_leftAt_5 rfl (lv_at hl 0 rfl) ?_
    refine f_X8_7 X hp dX8_leftAt_6 ?_
    refine lv_iload_n hx hb dX8_leftAt_9 rfl (lv_at hl 1 rfl) ?_
    refine lv_iconst (v := (nI 0)) hx hb dX8_leftAt_10 (by decide) ?_
    refine lv_iadd hx hb dX8_leftAt_11 ?_
    have hv1 := h.1
    have h := h.2
    refine al_i X hp ar_s316 hv1 dX8_leftAt_12 ?_
    refine lv_icmp_ge (tgt := 36) hx hb dX8_leftAt_13 (by decide) (fun c2 => ?_) (fun c2 => ?_)
    · have h := h.1 c2
      exact K36 _ _ _ _ _ h hp (lv_sub hl [2] rfl)
    · have h := h.2 c2
      refine lv_iload_n hx hb dX8_leftAt_16 rfl (lv_at hl 2 rfl) ?_
      refine lv_aload_n hx hb dX8_leftAt_17 rfl (lv_at hl 0 rfl) ?_
      refine f_X8_7 X hp dX8_leftAt_18 ?_
      refine lv_iload_n hx hb dX8_leftAt_21 rfl (lv_at hl 1 rfl) ?_
      refine lv_bipush (v := (nI 41)) hx hb dX8_leftAt_22 (by decide) ?_
      refine lv_iadd hx hb dX8_leftAt_24 ?_
      refine lv_iload_n hx hb dX8_leftAt_25 rfl (lv_at hl 3 rfl) ?_
      refine lv_iadd hx hb dX8_leftAt_26 ?_
      have hv3 := h.1
      have h := h.2
      refine al_i X hp ar_s316 hv3 dX8_leftAt_27 ?_
      refine lv_iadd hx hb dX8_leftAt_28 ?_
      refine lv_istore_n (lv' := [(2, .int (x2 + (I 316 ((x1 + (nI 41)) + x3).toNatClampNeg))), (0, .ref (E.2.1 315)), (1, .int x1), (3, .int x3)]) hx hb dX8_leftAt_29 rfl hl (by decide) rfl (fun ls hl => ?_)
      refine lv_iinc (v := (x3 + (nI 1))) (lv' := [(3, .int (x3 + (nI 1))), (2, .int (x2 + (I 316 ((x1 + (nI 41)) + x3).toNatClampNeg))), (0, .ref (E.2.1 315)), (1, .int x1)]) hx hb dX8_leftAt_30 hl (k := 3) rfl rfl (by decide) rfl (fun ls hl => ?_)
      refine lv_goto (tgt := 4) hx hb dX8_leftAt_33 (by decide) ?_
      exact ih _ _ _ _ _ _ _ h hp (lv_sub hl [2, 3, 1, 0] rfl)
def wp_X8_leftAt (x1 : Int32) (I : II) (Q : Int32 → II → Prop) : Prop := (∃ n51, wp_X8_leftAt_4 Q (fun x2 I => (Q x2 I)) n51 x1 (nI 0) (nI 0) I)
set_option maxHeartbeats 4000000 in
set_option maxRecDepth 100000 in
theorem w_X8_leftAt_0 {E : EE} {p : Program} {l : Launch} {e : Env} {s : State} {m : MethodId} {args : Array Value} {below : List Frame} {meth : Method} {c : Code} {Q : Int32 → II → Prop} (X : CX E p s m args meth c cX8_leftAt 4 (some .int) RX8) : ∀ (x1 : Int32) (I : II) (H : Heap) (locs : List Loc) (ls : Array Slot), wp_X8_leftAt x1 I Q → PP E s H locs I → lv_has ls 4 [(0, .ref (E.2.1 315)), (1, .int x1)] → W p l e rmX8_leftAt s m args below meth c H locs 0 0 (MQ below (va_Qi Q (BU E) E.2.2.2.1) args s 0 0 E.2.2.2.1) (F0 m 0 ls []) := by
  obtain ⟨⟨hx, hb, hml, hown, hts⟩, hr, hlk, hK, hST, hN⟩ := id X
  intro x1 I H locs ls h hp hl
  unfold wp_X8_leftAt at h
  refine lv_iconst (v := (nI 0)) hx hb dX8_leftAt_0 (by decide) ?_
  refine lv_istore_n (lv' := [(2, .int (nI 0)), (0, .ref (E.2.1 315)), (1, .int x1)]) hx hb dX8_leftAt_1 rfl hl (by decide) rfl (fun ls hl => ?_)
  refine lv_iconst (v := (nI 0)) hx hb dX8_leftAt_2 (by decide) ?_
  refine lv_istore_n (lv' := [(3, .int (nI 0)), (2, .int (nI 0)), (0, .ref (E.2.1 315)), (1, .int x1)]) hx hb dX8_leftAt_3 rfl hl (by decide) rfl (fun ls hl => ?_)
  obtain ⟨n51, h⟩ := h
  refine w_X8_leftAt_4 X ?_ n51 _ _ _ _ _ _ _ h hp (lv_sub hl [2, 3, 1, 0] rfl)
  · intro x2 I H locs ls h hp hl
    refine lv_iload_n hx hb dX8_leftAt_36 rfl (lv_at hl 0 rfl) ?_
    exact rt_i X hp h dX8_leftAt_37
set_option maxRecDepth 100000 in
theorem C_X8_leftAt {E : EE} {l : Launch} {x1 : Int32} {I : II} {Q : Int32 → II → Prop} (h : wp_X8_leftAt x1 I Q) : Met l yX8_leftAt (Cond.code yX8_leftAt cX8_leftAt 4 (some .int) :: lwT) rmX8_leftAt (va_Pc [.ref (E.2.1 315), .int x1] (PU E I)) (va_Qi Q (BU E) E.2.2.2.1) 0 0 E.2.2.2.1 :=
  ofWalk [.ref (E.2.1 315), .int x1] (by decide) tw_c_X8_leftAt (Nat.le_of_ble_eq_true rfl) (fun p e s m below meth c ls X hp hl => w_X8_leftAt_0 X _ _ _ _ _ h hp hl)
abbrev rmX8_layLine : Room := { frames := 1, cells := 0, slots := 0, locals := 24 }
theorem vf_X8_layLine : VF yX8_layLine RX8 cX8_layLine 3 none 0 := ⟨tw_in_X8, tw_im_X8_layLine, tw_se_X8_layLine, tw_c_X8_layLine, by decide, by decide, by decide +kernel⟩
def wp_X8_layLine_29 (Q : II → Prop) (k4 : Int32 → Int32 → II → Prop) (x1 : Int32) (x2 : Int32) (I : II) : Prop := (k4 x1 (x2 + (nI 1)) I)
set_option maxHeartbeats 4000000 in
set_option maxRecDepth 100000 in
theorem w_X8_layLine_29 {E : EE} {p : Program} {l : Launch} {e : Env} {s : State} {m : MethodId} {args : Array Value} {below : List Frame} {meth : Method} {c : Code} {Q : II → Prop} {k4 : Int32 → Int32 → II → Prop} (X : CX E p s m args meth c cX8_layLine 3 none RX8) (K4 : ∀ (x1 : Int32) (x2 : Int32) (I : II) (H : Heap) (locs : List Loc) (ls : Array Slot), k4 x1 x2 I → PP E s H locs I → lv_has ls 3 [(0, .ref (E.2.1 315)), (1, .int x1), (2, .int x2)] → W p l e rmX8_layLine s m args below meth c H locs 0 0 (MQ below (va_Qv Q (BU E) E.2.2.2.1) args s 0 0 E.2.2.2.1) (F0 m 4 ls [])) : ∀ (x1 : Int32) (x2 : Int32) (I : II) (H : Heap) (locs : List Loc) (ls : Array Slot), wp_X8_layLine_29 Q k4 x1 x2 I → PP E s H locs I → lv_has ls 3 [(0, .ref (E.2.1 315)), (1, .int x1), (2, .int x2)] → W p l e rmX8_layLine s m args below meth c H locs 0 0 (MQ below (va_Qv Q (BU E) E.2.2.2.1) args s 0 0 E.2.2.2.1) (F0 m 29 ls []) := by
  obtain ⟨⟨hx, hb, hml, hown, hts⟩, hr, hlk, hK, hST, hN⟩ := id X
  intro x1 x2 I H locs ls h hp hl
  unfold wp_X8_layLine_29 at h
  refine lv_iinc (v := (x2 + (nI 1))) (lv' := [(2, .int (x2 + (nI 1))), (0, .ref (E.2.1 315)), (1, .int x1)]) hx hb dX8_layLine_29 hl (k := 2) rfl rfl (by decide) rfl (fun ls hl => ?_)
  refine lv_goto (tgt := 4) hx hb dX8_layLine_32 (by decide) ?_
  exact K4 _ _ _ _ _ _ h hp (lv_sub hl [1, 2, 0] rfl)
def wp_X8_layLine_4 (Q : II → Prop) (k35 : II → Prop) : Nat → Int32 → Int32 → II → Prop
  | 0, _, _, _ => False
  | n + 1, x1, x2, I => (((nI 7) ≤ x2 → (k35 I)) ∧ (¬ (nI 7) ≤ x2 → (wp_X8_isWaiting (nI 0) x2 I (fun r3 I2 => ((r3 = 0 → (wp_X8_layLine_29 Q (fun x1 x2 I => wp_X8_layLine_4 Q k35 n x1 x2 I) x1 x2 I2)) ∧ (¬ r3 = 0 → (vp_in x1 7 ∧ ∀ I6 : II, I6 = su I2 323 x1.toNatClampNeg x2 → (wp_X8_layLine_29 Q (fun x1 x2 I => wp_X8_layLine_4 Q k35 n x1 x2 I) (x1 + (nI 1)) x2 I6))))))))
set_option maxHeartbeats 4000000 in
set_option maxRecDepth 100000 in
theorem w_X8_layLine_4 {E : EE} {p : Program} {l : Launch} {e : Env} {s : State} {m : MethodId} {args : Array Value} {below : List Frame} {meth : Method} {c : Code} {Q : II → Prop} {k35 : II → Prop} (X : CX E p s m args meth c cX8_layLine 3 none RX8) (K35 : ∀ (I : II) (H : Heap) (locs : List Loc) (ls : Array Slot), k35 I → PP E s H locs I → lv_has ls 3 [] → W p l e rmX8_layLine s m args below meth c H locs 0 0 (MQ below (va_Qv Q (BU E) E.2.2.2.1) args s 0 0 E.2.2.2.1) (F0 m 35 ls [])) : ∀ (n : Nat) (x1 : Int32) (x2 : Int32) (I : II) (H : Heap) (locs : List Loc) (ls : Array Slot), wp_X8_layLine_4 Q k35 n x1 x2 I → PP E s H locs I → lv_has ls 3 [(0, .ref (E.2.1 315)), (1, .int x1), (2, .int x2)] → W p l e rmX8_layLine s m args below meth c H locs 0 0 (MQ below (va_Qv Q (BU E) E.2.2.2.1) args s 0 0 E.2.2.2.1) (F0 m 4 ls []) := by
  obtain ⟨⟨hx, hb, hml, hown, hts⟩, hr, hlk, hK, hST, hN⟩ := id X
  intro n
  induction n with
  | zero =>
    intro x1 x2 I H locs ls h hp hl
    exact False.elim h
  | succ n ih =>
    intro x1 x2 I H locs ls h hp hl
    rw [wp_X8_layLine_4.eq_2] at h
    refine lv_iload_n hx hb dX8_layLine_4 rfl (lv_at hl 2 rfl) ?_
    refine lv_bipush (v := (nI 7)) hx hb dX8_layLine_5 (by decide) ?_
    refine lv_icmp_ge (tgt := 35) hx hb dX8_layLine_7 (by decide) (fun c1 => ?_) (fun c1 => ?_)
    · have h := h.1 c1
      exact K35 _ _ _ _ h hp (lv_sub hl [] rfl)
    · have h := h.2 c1
      refine lv_aload_n hx hb dX8_layLine_10 rfl (lv_at hl 0 rfl) ?_
      refine lv_iconst (v := (nI 0)) hx hb dX8_layLine_11 (by decide) ?_
      refine lv_iload_n hx hb dX8_layLine_12 rfl (lv_at hl 2 rfl) ?_
      refine ki (kV (As := [.int (nI 0), .int x2]) (rest := []) X hp (C_X8_isWaiting  h) tw_ml_X8_178 vf_X8_isWaiting ⟨rfl, rfl, Nat.le_of_ble_eq_true rfl, Nat.le_of_ble_eq_true rfl⟩ (pr_rcv X hp (k := 315) (by decide) (ob_315 _) (q := (RX8, TX8, 18)) rfl) rfl hl.1 rfl (Nat.le_of_ble_eq_true rfl) dX8_layLine_13) hp (fun r3 I2 H locs h hp => ?_)
      refine lv_if_eq (tgt := 29) hx hb dX8_layLine_16 (by decide) (fun c4 => ?_) (fun c4 => ?_)
      · have h := h.1 c4
        exact w_X8_layLine_29 X ih _ _ _ _ _ _ h hp (lv_sub hl [0, 1, 2] rfl)
      · have h := h.2 c4
        refine lv_aload_n hx hb dX8_layLine_19 rfl (lv_at hl 0 rfl) ?_
        refine f_X8_32 X hp dX8_layLine_20 ?_
        refine lv_iload_n hx hb dX8_layLine_23 rfl (lv_at hl 1 rfl) ?_
        refine lv_iload_n hx hb dX8_layLine_24 rfl (lv_at hl 2 rfl) ?_
        have hv5 := h.1
        have h := h.2
        refine as_i X hp ar_s323 hv5 dX8_layLine_25 (fun H locs hp => ?_)
        obtain ⟨I6, e7⟩ : ∃ y, y = su I2 323 x1.toNatClampNeg x2 := ⟨_, rfl⟩
        have hp : PP E s H locs I6 := by rw [e7]; exact hp
        have h := h I6 e7
        refine lv_iinc (v := (x1 + (nI 1))) (lv' := [(1, .int (x1 + (nI 1))), (0, .ref (E.2.1 315)), (2, .int x2)]) hx hb dX8_layLine_26 hl (k := 1) rfl rfl (by decide) rfl (fun ls hl => ?_)
        exact w_X8_layLine_29 X ih _ _ _ _ _ _ h hp (lv_sub hl [1, 0, 2] rfl)
def wp_X8_layLine (I : II) (Q : II → Prop) : Prop := (∃ n51, wp_X8_layLine_4 Q (fun I => (Q I)) n51 (nI 0) (nI 0) I)
set_option maxHeartbeats 4000000 in
set_option maxRecDepth 100000 in
theorem w_X8_layLine_0 {E : EE} {p : Program} {l : Launch} {e : Env} {s : State} {m : MethodId} {args : Array Value} {below : List Frame} {meth : Method} {c : Code} {Q : II → Prop} (X : CX E p s m args meth c cX8_layLine 3 none RX8) : ∀ (I : II) (H : Heap) (locs : List Loc) (ls : Array Slot), wp_X8_layLine I Q → PP E s H locs I → lv_has ls 3 [(0, .ref (E.2.1 315))] → W p l e rmX8_layLine s m args below meth c H locs 0 0 (MQ below (va_Qv Q (BU E) E.2.2.2.1) args s 0 0 E.2.2.2.1) (F0 m 0 ls []) := by
  obtain ⟨⟨hx, hb, hml, hown, hts⟩, hr, hlk, hK, hST, hN⟩ := id X
  intro I H locs ls h hp hl
  unfold wp_X8_layLine at h
  refine lv_iconst (v := (nI 0)) hx hb dX8_layLine_0 (by decide) ?_
  refine lv_istore_n (lv' := [(1, .int (nI 0)), (0, .ref (E.2.1 315))]) hx hb dX8_layLine_1 rfl hl (by decide) rfl (fun ls hl => ?_)
  refine lv_iconst (v := (nI 0)) hx hb dX8_layLine_2 (by decide) ?_
  refine lv_istore_n (lv' := [(2, .int (nI 0)), (1, .int (nI 0)), (0, .ref (E.2.1 315))]) hx hb dX8_layLine_3 rfl hl (by decide) rfl (fun ls hl => ?_)
  obtain ⟨n51, h⟩ := h
  refine w_X8_layLine_4 X ?_ n51 _ _ _ _ _ _ h hp (lv_sub hl [2, 1, 0] rfl)
  · intro I H locs ls h hp hl
    exact rt_v X hp h dX8_layLine_35
set_option maxRecDepth 100000 in
theorem C_X8_layLine {E : EE} {l : Launch} {I : II} {Q : II → Prop} (h : wp_X8_layLine I Q) : Met l yX8_layLine (Cond.code yX8_layLine cX8_layLine 3 none :: lwT) rmX8_layLine (va_Pc [.ref (E.2.1 315)] (PU E I)) (va_Qv Q (BU E) E.2.2.2.1) 0 0 E.2.2.2.1 :=
  ofWalk [.ref (E.2.1 315)] (by decide) tw_c_X8_layLine (Nat.le_of_ble_eq_true rfl) (fun p e s m below meth c ls X hp hl => w_X8_layLine_0 X _ _ _ _ h hp hl)
abbrev rmX8_swapLine : Room := { frames := 0, cells := 0, slots := 0, locals := 0 }
theorem vf_X8_swapLine : VF yX8_swapLine RX8 cX8_swapLine 4 none 2 := ⟨tw_in_X8, tw_im_X8_swapLine, tw_se_X8_swapLine, tw_c_X8_swapLine, by decide, by decide, by decide +kernel⟩
def wp_X8_swapLine (x1 : Int32) (x2 : Int32) (I : II) (Q : II → Prop) : Prop := (vp_in x1 7 ∧ (vp_in x2 7 ∧ (vp_in x1 7 ∧ ∀ I4 : II, I4 = su I 323 x1.toNatClampNeg (I 323 x2.toNatClampNeg) → (vp_in x2 7 ∧ ∀ I7 : II, I7 = su I4 323 x2.toNatClampNeg (I 323 x1.toNatClampNeg) → (Q I7)))))
set_option maxHeartbeats 4000000 in
set_option maxRecDepth 100000 in
theorem w_X8_swapLine_0 {E : EE} {p : Program} {l : Launch} {e : Env} {s : State} {m : MethodId} {args : Array Value} {below : List Frame} {meth : Method} {c : Code} {Q : II → Prop} (X : CX E p s m args meth c cX8_swapLine 4 none RX8) : ∀ (x1 : Int32) (x2 : Int32) (I : II) (H : Heap) (locs : List Loc) (ls : Array Slot), wp_X8_swapLine x1 x2 I Q → PP E s H locs I → lv_has ls 4 [(0, .ref (E.2.1 315)), (1, .int x1), (2, .int x2)] → W p l e rmX8_swapLine s m args below meth c H locs 0 0 (MQ below (va_Qv Q (BU E) E.2.2.2.1) args s 0 0 E.2.2.2.1) (F0 m 0 ls []) := by
  obtain ⟨⟨hx, hb, hml, hown, hts⟩, hr, hlk, hK, hST, hN⟩ := id X
  intro x1 x2 I H locs ls h hp hl
  unfold wp_X8_swapLine at h
  refine lv_aload_n hx hb dX8_swapLine_0 rfl (lv_at hl 0 rfl) ?_
  refine f_X8_32 X hp dX8_swapLine_1 ?_
  refine lv_iload_n hx hb dX8_swapLine_4 rfl (lv_at hl 1 rfl) ?_
  have hv1 := h.1
  have h := h.2
  refine al_i X hp ar_s323 hv1 dX8_swapLine_5 ?_
  refine lv_istore_n (lv' := [(3, .int (I 323 x1.toNatClampNeg)), (0, .ref (E.2.1 315)), (1, .int x1), (2, .int x2)]) hx hb dX8_swapLine_6 rfl hl (by decide) rfl (fun ls hl => ?_)
  refine lv_aload_n hx hb dX8_swapLine_7 rfl (lv_at hl 1 rfl) ?_
  refine f_X8_32 X hp dX8_swapLine_8 ?_
  refine lv_iload_n hx hb dX8_swapLine_11 rfl (lv_at hl 2 rfl) ?_
  refine lv_aload_n hx hb dX8_swapLine_12 rfl (lv_at hl 1 rfl) ?_
  refine f_X8_32 X hp dX8_swapLine_13 ?_
  refine lv_iload_n hx hb dX8_swapLine_16 rfl (lv_at hl 3 rfl) ?_
  have hv2 := h.1
  have h := h.2
  refine al_i X hp ar_s323 hv2 dX8_swapLine_17 ?_
  have hv3 := h.1
  have h := h.2
  refine as_i X hp ar_s323 hv3 dX8_swapLine_18 (fun H locs hp => ?_)
  obtain ⟨I4, e5⟩ : ∃ y, y = su I 323 x1.toNatClampNeg (I 323 x2.toNatClampNeg) := ⟨_, rfl⟩
  have hp : PP E s H locs I4 := by rw [e5]; exact hp
  have h := h I4 e5
  refine lv_aload_n hx hb dX8_swapLine_19 rfl (lv_at hl 1 rfl) ?_
  refine f_X8_32 X hp dX8_swapLine_20 ?_
  refine lv_iload_n hx hb dX8_swapLine_23 rfl (lv_at hl 3 rfl) ?_
  refine lv_iload_n hx hb dX8_swapLine_24 rfl (lv_at hl 0 rfl) ?_
  have hv6 := h.1
  have h := h.2
  refine as_i X hp ar_s323 hv6 dX8_swapLine_25 (fun H locs hp => ?_)
  obtain ⟨I7, e8⟩ : ∃ y, y = su I4 323 x2.toNatClampNeg (I 323 x1.toNatClampNeg) := ⟨_, rfl⟩
  have hp : PP E s H locs I7 := by rw [e8]; exact hp
  have h := h I7 e8
  exact rt_v X hp h dX8_swapLine_26
set_option maxRecDepth 100000 in
theorem C_X8_swapLine {E : EE} {l : Launch} {x1 : Int32} {x2 : Int32} {I : II} {Q : II → Prop} (h : wp_X8_swapLine x1 x2 I Q) : Met l yX8_swapLine (Cond.code yX8_swapLine cX8_swapLine 4 none :: lwT) rmX8_swapLine (va_Pc [.ref (E.2.1 315), .int x1, .int x2] (PU E I)) (va_Qv Q (BU E) E.2.2.2.1) 0 0 E.2.2.2.1 :=
  ofWalk [.ref (E.2.1 315), .int x1, .int x2] (by decide) tw_c_X8_swapLine (Nat.le_of_ble_eq_true rfl) (fun p e s m below meth c ls X hp hl => w_X8_swapLine_0 X _ _ _ _ _ _ h hp hl)
abbrev rmX8_nextLine : Room := { frames := 1, cells := 0, slots := 0, locals := 23 }
theorem vf_X8_nextLine : VF yX8_nextLine RX8 cX8_nextLine 5 (some .boolean) 0 := ⟨tw_in_X8, tw_im_X8_nextLine, tw_se_X8_nextLine, tw_c_X8_nextLine, by decide, by decide, by decide +kernel⟩
def wp_X8_nextLine_10 (Q : Int32 → II → Prop) (k37 : Int32 → II → Prop) : Nat → Int32 → II → Prop
  | 0, _, _ => False
  | n + 1, x1, I => ((x1 < 0 → (k37 x1 I)) ∧ (¬ x1 < 0 → (vp_in x1 7 ∧ (vp_in (x1 + (nI 1)) 7 ∧ (((I 323 x1.toNatClampNeg) ≤ (I 323 (x1 + (nI 1)).toNatClampNeg) → (k37 x1 I)) ∧ (¬ (I 323 x1.toNatClampNeg) ≤ (I 323 (x1 + (nI 1)).toNatClampNeg) → (wp_X8_nextLine_10 Q k37 n (x1 + (-nI 1)) I)))))))
set_option maxHeartbeats 4000000 in
set_option maxRecDepth 100000 in
theorem w_X8_nextLine_10 {E : EE} {p : Program} {l : Launch} {e : Env} {s : State} {m : MethodId} {args : Array Value} {below : List Frame} {meth : Method} {c : Code} {Q : Int32 → II → Prop} {k37 : Int32 → II → Prop} (X : CX E p s m args meth c cX8_nextLine 5 (some .boolean) RX8) (K37 : ∀ (x1 : Int32) (I : II) (H : Heap) (locs : List Loc) (ls : Array Slot), k37 x1 I → PP E s H locs I → lv_has ls 5 [(0, .ref (E.2.1 315)), (1, .int x1)] → W p l e rmX8_nextLine s m args below meth c H locs 0 0 (MQ below (va_Qi Q (BU E) E.2.2.2.1) args s 0 0 E.2.2.2.1) (F0 m 37 ls [])) : ∀ (n : Nat) (x1 : Int32) (I : II) (H : Heap) (locs : List Loc) (ls : Array Slot), wp_X8_nextLine_10 Q k37 n x1 I → PP E s H locs I → lv_has ls 5 [(0, .ref (E.2.1 315)), (1, .int x1)] → W p l e rmX8_nextLine s m args below meth c H locs 0 0 (MQ below (va_Qi Q (BU E) E.2.2.2.1) args s 0 0 E.2.2.2.1) (F0 m 10 ls []) := by
  obtain ⟨⟨hx, hb, hml, hown, hts⟩, hr, hlk, hK, hST, hN⟩ := id X
  intro n
  induction n with
  | zero =>
    intro x1 I H locs ls h hp hl
    exact False.elim h
  | succ n ih =>
    intro x1 I H locs ls h hp hl
    rw [wp_X8_nextLine_10.eq_2] at h
    refine lv_iload_n hx hb dX8_nextLine_10 rfl (lv_at hl 1 rfl) ?_
    refine lv_if_lt (tgt := 37) hx hb dX8_nextLine_11 (by decide) (fun c1 => ?_) (fun c1 => ?_)
    · have h := h.1 c1
      exact K37 _ _ _ _ _ h hp (lv_sub hl [0, 1] rfl)
    · have h := h.2 c1
      refine lv_aload_n hx hb dX8_nextLine_14 rfl (lv_at hl 0 rfl) ?_
      refine f_X8_32 X hp dX8_nextLine_15 ?_
      refine lv_iload_n hx hb dX8_nextLine_18 rfl (lv_at hl 1 rfl) ?_
      have hv2 := h.1
      have h := h.2
      refine al_i X hp ar_s323 hv2 dX8_nextLine_19 ?_
      refine lv_aload_n hx hb dX8_nextLine_20 rfl (lv_at hl 0 rfl) ?_
      refine f_X8_32 X hp dX8_nextLine_21 ?_
      refine lv_iload_n hx hb dX8_nextLine_24 rfl (lv_at hl 1 rfl) ?_
      refine lv_iconst (v := (nI 1)) hx hb dX8_nextLine_25 (by decide) ?_
      refine lv_iadd hx hb dX8_nextLine_26 ?_
      have hv3 := h.1
      have h := h.2
      refine al_i X hp ar_s323 hv3 dX8_nextLine_27 ?_
      refine lv_icmp_le (tgt := 37) hx hb dX8_nextLine_28 (by decide) (fun c4 => ?_) (fun c4 => ?_)
      · have h := h.1 c4
        exact K37 _ _ _ _ _ h hp (lv_sub hl [0, 1] rfl)
      · have h := h.2 c4
        refine lv_iinc (v := (x1 + (-nI 1))) (lv' := [(1, .int (x1 + (-nI 1))), (0, .ref (E.2.1 315))]) hx hb dX8_nextLine_31 hl (k := 1) rfl rfl (by decide) rfl (fun ls hl => ?_)
        refine lv_goto (tgt := 10) hx hb dX8_nextLine_34 (by decide) ?_
        exact ih _ _ _ _ _ h hp (lv_sub hl [1, 0] rfl)
def wp_X8_nextLine_53 (Q : Int32 → II → Prop) (k74 : Int32 → Int32 → II → Prop) : Nat → Int32 → Int32 → II → Prop
  | 0, _, _, _ => False
  | n + 1, x1, x2, I => (vp_in x2 7 ∧ (vp_in x1 7 ∧ (((I 323 x1.toNatClampNeg) ≤ (I 323 x2.toNatClampNeg) → (k74 x1 x2 I)) ∧ (¬ (I 323 x1.toNatClampNeg) ≤ (I 323 x2.toNatClampNeg) → (wp_X8_nextLine_53 Q k74 n x1 (x2 + (-nI 1)) I)))))
set_option maxHeartbeats 4000000 in
set_option maxRecDepth 100000 in
theorem w_X8_nextLine_53 {E : EE} {p : Program} {l : Launch} {e : Env} {s : State} {m : MethodId} {args : Array Value} {below : List Frame} {meth : Method} {c : Code} {Q : Int32 → II → Prop} {k74 : Int32 → Int32 → II → Prop} (X : CX E p s m args meth c cX8_nextLine 5 (some .boolean) RX8) (K74 : ∀ (x1 : Int32) (x2 : Int32) (I : II) (H : Heap) (locs : List Loc) (ls : Array Slot), k74 x1 x2 I → PP E s H locs I → lv_has ls 5 [(0, .ref (E.2.1 315)), (1, .int x1), (2, .int x2)] → W p l e rmX8_nextLine s m args below meth c H locs 0 0 (MQ below (va_Qi Q (BU E) E.2.2.2.1) args s 0 0 E.2.2.2.1) (F0 m 74 ls [])) : ∀ (n : Nat) (x1 : Int32) (x2 : Int32) (I : II) (H : Heap) (locs : List Loc) (ls : Array Slot), wp_X8_nextLine_53 Q k74 n x1 x2 I → PP E s H locs I → lv_has ls 5 [(0, .ref (E.2.1 315)), (1, .int x1), (2, .int x2)] → W p l e rmX8_nextLine s m args below meth c H locs 0 0 (MQ below (va_Qi Q (BU E) E.2.2.2.1) args s 0 0 E.2.2.2.1) (F0 m 53 ls []) := by
  obtain ⟨⟨hx, hb, hml, hown, hts⟩, hr, hlk, hK, hST, hN⟩ := id X
  intro n
  induction n with
  | zero =>
    intro x1 x2 I H locs ls h hp hl
    exact False.elim h
  | succ n ih =>
    intro x1 x2 I H locs ls h hp hl
    rw [wp_X8_nextLine_53.eq_2] at h
    refine lv_aload_n hx hb dX8_nextLine_53 rfl (lv_at hl 0 rfl) ?_
    refine f_X8_32 X hp dX8_nextLine_54 ?_
    refine lv_iload_n hx hb dX8_nextLine_57 rfl (lv_at hl 2 rfl) ?_
    have hv1 := h.1
    have h := h.2
    refine al_i X hp ar_s323 hv1 dX8_nextLine_58 ?_
    refine lv_aload_n hx hb dX8_nextLine_59 rfl (lv_at hl 0 rfl) ?_
    refine f_X8_32 X hp dX8_nextLine_60 ?_
    refine lv_iload_n hx hb dX8_nextLine_63 rfl (lv_at hl 1 rfl) ?_
    have hv2 := h.1
    have h := h.2
    refine al_i X hp ar_s323 hv2 dX8_nextLine_64 ?_
    refine lv_icmp_ge (tgt := 74) hx hb dX8_nextLine_65 (by decide) (fun c3 => ?_) (fun c3 => ?_)
    · have h := h.1 c3
      exact K74 _ _ _ _ _ _ h hp (lv_sub hl [0, 1, 2] rfl)
    · have h := h.2 c3
      refine lv_iinc (v := (x2 + (-nI 1))) (lv' := [(2, .int (x2 + (-nI 1))), (0, .ref (E.2.1 315)), (1, .int x1)]) hx hb dX8_nextLine_68 hl (k := 2) rfl rfl (by decide) rfl (fun ls hl => ?_)
      refine lv_goto (tgt := 53) hx hb dX8_nextLine_71 (by decide) ?_
      exact ih _ _ _ _ _ _ h hp (lv_sub hl [1, 2, 0] rfl)
def wp_X8_nextLine_95 (Q : Int32 → II → Prop) (k117 : II → Prop) : Nat → Int32 → Int32 → II → Prop
  | 0, _, _, _ => False
  | n + 1, x3, x4, I => ((x4 ≤ x3 → (k117 I)) ∧ (¬ x4 ≤ x3 → (wp_X8_swapLine x3 x4 I (fun I2 => (wp_X8_nextLine_95 Q k117 n (x3 + (nI 1)) (x4 + (-nI 1)) I2)))))
set_option maxHeartbeats 4000000 in
set_option maxRecDepth 100000 in
theorem w_X8_nextLine_95 {E : EE} {p : Program} {l : Launch} {e : Env} {s : State} {m : MethodId} {args : Array Value} {below : List Frame} {meth : Method} {c : Code} {Q : Int32 → II → Prop} {k117 : II → Prop} (X : CX E p s m args meth c cX8_nextLine 5 (some .boolean) RX8) (K117 : ∀ (I : II) (H : Heap) (locs : List Loc) (ls : Array Slot), k117 I → PP E s H locs I → lv_has ls 5 [] → W p l e rmX8_nextLine s m args below meth c H locs 0 0 (MQ below (va_Qi Q (BU E) E.2.2.2.1) args s 0 0 E.2.2.2.1) (F0 m 117 ls [])) : ∀ (n : Nat) (x3 : Int32) (x4 : Int32) (I : II) (H : Heap) (locs : List Loc) (ls : Array Slot), wp_X8_nextLine_95 Q k117 n x3 x4 I → PP E s H locs I → lv_has ls 5 [(0, .ref (E.2.1 315)), (3, .int x3), (4, .int x4)] → W p l e rmX8_nextLine s m args below meth c H locs 0 0 (MQ below (va_Qi Q (BU E) E.2.2.2.1) args s 0 0 E.2.2.2.1) (F0 m 95 ls []) := by
  obtain ⟨⟨hx, hb, hml, hown, hts⟩, hr, hlk, hK, hST, hN⟩ := id X
  intro n
  induction n with
  | zero =>
    intro x3 x4 I H locs ls h hp hl
    exact False.elim h
  | succ n ih =>
    intro x3 x4 I H locs ls h hp hl
    rw [wp_X8_nextLine_95.eq_2] at h
    refine lv_iload_n hx hb dX8_nextLine_95 rfl (lv_at hl 1 rfl) ?_
    refine lv_iload hx hb dX8_nextLine_96 (lv_at hl 2 rfl) ?_
    refine lv_icmp_ge (tgt := 117) hx hb dX8_nextLine_98 (by decide) (fun c1 => ?_) (fun c1 => ?_)
    · have h := h.1 c1
      exact K117 _ _ _ _ h hp (lv_sub hl [] rfl)
    · have h := h.2 c1
      refine lv_aload_n hx hb dX8_nextLine_101 rfl (lv_at hl 0 rfl) ?_
      refine lv_iload_n hx hb dX8_nextLine_102 rfl (lv_at hl 1 rfl) ?_
      refine lv_iload hx hb dX8_nextLine_103 (lv_at hl 2 rfl) ?_
      refine kv (kV (As := [.int x3, .int x4]) (rest := []) X hp (C_X8_swapLine  h) tw_ml_X8_202 vf_X8_swapLine ⟨rfl, rfl, Nat.le_of_ble_eq_true rfl, Nat.le_of_ble_eq_true rfl⟩ (pr_rcv X hp (k := 315) (by decide) (ob_315 _) (q := (RX8, TX8, 18)) rfl) rfl hl.1 rfl (Nat.le_of_ble_eq_true rfl) dX8_nextLine_105) hp (fun I2 H locs h hp => ?_)
      refine lv_iinc (v := (x3 + (nI 1))) (lv' := [(3, .int (x3 + (nI 1))), (0, .ref (E.2.1 315)), (4, .int x4)]) hx hb dX8_nextLine_108 hl (k := 1) rfl rfl (by decide) rfl (fun ls hl => ?_)
      refine lv_iinc (v := (x4 + (-nI 1))) (lv' := [(4, .int (x4 + (-nI 1))), (3, .int (x3 + (nI 1))), (0, .ref (E.2.1 315))]) hx hb dX8_nextLine_111 hl (k := 2) rfl rfl (by decide) rfl (fun ls hl => ?_)
      refine lv_goto (tgt := 95) hx hb dX8_nextLine_114 (by decide) ?_
      exact ih _ _ _ _ _ _ h hp (lv_sub hl [2, 1, 0] rfl)
def wp_X8_nextLine_37 (Q : Int32 → II → Prop) (x1 : Int32) (I : II) : Prop := ((0 ≤ x1 → (vp_in (nI 7) 1372 ∧ (∃ n107, wp_X8_nextLine_53 Q (fun x1 x2 I => (wp_X8_swapLine x1 x2 I (fun I53 => (vp_in (nI 7) 1372 ∧ (∃ n106, wp_X8_nextLine_95 Q (fun I => (Q (nI 1) I)) n106 (x1 + (nI 1)) ((I53 316 (nI 7).toNatClampNeg) - (nI 1)) I53))))) n107 x1 ((I 316 (nI 7).toNatClampNeg) - (nI 1)) I))) ∧ (¬ 0 ≤ x1 → (Q (nI 0) I)))
set_option maxHeartbeats 4000000 in
set_option maxRecDepth 100000 in
theorem w_X8_nextLine_37 {E : EE} {p : Program} {l : Launch} {e : Env} {s : State} {m : MethodId} {args : Array Value} {below : List Frame} {meth : Method} {c : Code} {Q : Int32 → II → Prop} (X : CX E p s m args meth c cX8_nextLine 5 (some .boolean) RX8) : ∀ (x1 : Int32) (I : II) (H : Heap) (locs : List Loc) (ls : Array Slot), wp_X8_nextLine_37 Q x1 I → PP E s H locs I → lv_has ls 5 [(0, .ref (E.2.1 315)), (1, .int x1)] → W p l e rmX8_nextLine s m args below meth c H locs 0 0 (MQ below (va_Qi Q (BU E) E.2.2.2.1) args s 0 0 E.2.2.2.1) (F0 m 37 ls []) := by
  obtain ⟨⟨hx, hb, hml, hown, hts⟩, hr, hlk, hK, hST, hN⟩ := id X
  intro x1 I H locs ls h hp hl
  unfold wp_X8_nextLine_37 at h
  refine lv_iload_n hx hb dX8_nextLine_37 rfl (lv_at hl 1 rfl) ?_
  refine lv_if_ge (tgt := 43) hx hb dX8_nextLine_38 (by decide) (fun c1 => ?_) (fun c1 => ?_)
  · have h := h.1 c1
    refine lv_aload_n hx hb dX8_nextLine_43 rfl (lv_at hl 0 rfl) ?_
    refine f_X8_7 X hp dX8_nextLine_44 ?_
    refine lv_bipush (v := (nI 7)) hx hb dX8_nextLine_47 (by decide) ?_
    have hv2 := h.1
    have h := h.2
    refine al_i X hp ar_s316 hv2 dX8_nextLine_49 ?_
    refine lv_iconst (v := (nI 1)) hx hb dX8_nextLine_50 (by decide) ?_
    refine lv_isub hx hb dX8_nextLine_51 ?_
    refine lv_istore_n (lv' := [(2, .int ((I 316 (nI 7).toNatClampNeg) - (nI 1))), (0, .ref (E.2.1 315)), (1, .int x1)]) hx hb dX8_nextLine_52 rfl hl (by decide) rfl (fun ls hl => ?_)
    obtain ⟨n107, h⟩ := h
    refine w_X8_nextLine_53 X ?_ n107 _ _ _ _ _ _ h hp (lv_sub hl [1, 2, 0] rfl)
    · intro x1 x2 I H locs ls h hp hl
      refine lv_aload_n hx hb dX8_nextLine_74 rfl (lv_at hl 0 rfl) ?_
      refine lv_iload_n hx hb dX8_nextLine_75 rfl (lv_at hl 1 rfl) ?_
      refine lv_iload_n hx hb dX8_nextLine_76 rfl (lv_at hl 2 rfl) ?_
      refine kv (kV (As := [.int x1, .int x2]) (rest := []) X hp (C_X8_swapLine  h) tw_ml_X8_202 vf_X8_swapLine ⟨rfl, rfl, Nat.le_of_ble_eq_true rfl, Nat.le_of_ble_eq_true rfl⟩ (pr_rcv X hp (k := 315) (by decide) (ob_315 _) (q := (RX8, TX8, 18)) rfl) rfl hl.1 rfl (Nat.le_of_ble_eq_true rfl) dX8_nextLine_77) hp (fun I53 H locs h hp => ?_)
      refine lv_iload_n hx hb dX8_nextLine_80 rfl (lv_at hl 1 rfl) ?_
      refine lv_iconst (v := (nI 1)) hx hb dX8_nextLine_81 (by decide) ?_
      refine lv_iadd hx hb dX8_nextLine_82 ?_
      refine lv_istore_n (lv' := [(3, .int (x1 + (nI 1))), (0, .ref (E.2.1 315)), (1, .int x1), (2, .int x2)]) hx hb dX8_nextLine_83 rfl hl (by decide) rfl (fun ls hl => ?_)
      refine lv_aload_n hx hb dX8_nextLine_84 rfl (lv_at hl 1 rfl) ?_
      refine f_X8_7 X hp dX8_nextLine_85 ?_
      refine lv_bipush (v := (nI 7)) hx hb dX8_nextLine_88 (by decide) ?_
      have hv55 := h.1
      have h := h.2
      refine al_i X hp ar_s316 hv55 dX8_nextLine_90 ?_
      refine lv_iconst (v := (nI 1)) hx hb dX8_nextLine_91 (by decide) ?_
      refine lv_isub hx hb dX8_nextLine_92 ?_
      refine lv_istore (lv' := [(4, .int ((I53 316 (nI 7).toNatClampNeg) - (nI 1))), (3, .int (x1 + (nI 1))), (0, .ref (E.2.1 315)), (1, .int x1), (2, .int x2)]) hx hb dX8_nextLine_93 hl (by decide) rfl (fun ls hl => ?_)
      obtain ⟨n106, h⟩ := h
      refine w_X8_nextLine_95 X ?_ n106 _ _ _ _ _ _ h hp (lv_sub hl [2, 1, 0] rfl)
      · intro I H locs ls h hp hl
        refine lv_iconst (v := (nI 1)) hx hb dX8_nextLine_117 (by decide) ?_
        exact rt_z X hp ⟨Or.inr rfl, h⟩ dX8_nextLine_118
  · have h := h.2 c1
    refine lv_iconst (v := (nI 0)) hx hb dX8_nextLine_41 (by decide) ?_
    exact rt_z X hp ⟨Or.inl rfl, h⟩ dX8_nextLine_42
def wp_X8_nextLine (I : II) (Q : Int32 → II → Prop) : Prop := (vp_in (nI 7) 1372 ∧ (∃ n52, wp_X8_nextLine_10 Q (fun x1 I => (wp_X8_nextLine_37 Q x1 I)) n52 ((I 316 (nI 7).toNatClampNeg) - (nI 2)) I))
set_option maxHeartbeats 4000000 in
set_option maxRecDepth 100000 in
theorem w_X8_nextLine_0 {E : EE} {p : Program} {l : Launch} {e : Env} {s : State} {m : MethodId} {args : Array Value} {below : List Frame} {meth : Method} {c : Code} {Q : Int32 → II → Prop} (X : CX E p s m args meth c cX8_nextLine 5 (some .boolean) RX8) : ∀ (I : II) (H : Heap) (locs : List Loc) (ls : Array Slot), wp_X8_nextLine I Q → PP E s H locs I → lv_has ls 5 [(0, .ref (E.2.1 315))] → W p l e rmX8_nextLine s m args below meth c H locs 0 0 (MQ below (va_Qi Q (BU E) E.2.2.2.1) args s 0 0 E.2.2.2.1) (F0 m 0 ls []) := by
  obtain ⟨⟨hx, hb, hml, hown, hts⟩, hr, hlk, hK, hST, hN⟩ := id X
  intro I H locs ls h hp hl
  unfold wp_X8_nextLine at h
  refine lv_aload_n hx hb dX8_nextLine_0 rfl (lv_at hl 0 rfl) ?_
  refine f_X8_7 X hp dX8_nextLine_1 ?_
  refine lv_bipush (v := (nI 7)) hx hb dX8_nextLine_4 (by decide) ?_
  have hv1 := h.1
  have h := h.2
  refine al_i X hp ar_s316 hv1 dX8_nextLine_6 ?_
  refine lv_iconst (v := (nI 2)) hx hb dX8_nextLine_7 (by decide) ?_
  refine lv_isub hx hb dX8_nextLine_8 ?_
  refine lv_istore_n (lv' := [(1, .int ((I 316 (nI 7).toNatClampNeg) - (nI 2))), (0, .ref (E.2.1 315))]) hx hb dX8_nextLine_9 rfl hl (by decide) rfl (fun ls hl => ?_)
  obtain ⟨n52, h⟩ := h
  refine w_X8_nextLine_10 X ?_ n52 _ _ _ _ _ h hp (lv_sub hl [1, 0] rfl)
  · intro x1 I H locs ls h hp hl
    exact w_X8_nextLine_37 X  _ _ _ _ _ h hp (lv_sub hl [0, 1] rfl)
set_option maxRecDepth 100000 in
theorem C_X8_nextLine {E : EE} {l : Launch} {I : II} {Q : Int32 → II → Prop} (h : wp_X8_nextLine I Q) : Met l yX8_nextLine (Cond.code yX8_nextLine cX8_nextLine 5 (some .boolean) :: lwT) rmX8_nextLine (va_Pc [.ref (E.2.1 315)] (PU E I)) (va_Qi Q (BU E) E.2.2.2.1) 0 0 E.2.2.2.1 :=
  ofWalk [.ref (E.2.1 315)] (by decide) tw_c_X8_nextLine (Nat.le_of_ble_eq_true rfl) (fun p e s m below meth c ls X hp hl => w_X8_nextLine_0 X _ _ _ _ h hp hl)
abbrev rmX8_order : Room := { frames := 6, cells := 0, slots := 0, locals := 141 }
theorem vf_X8_order : VF yX8_order RX8 cX8_order 9 (some .int) 1 := ⟨tw_in_X8, tw_im_X8_order, tw_se_X8_order, tw_c_X8_order, by decide, by decide, by decide +kernel⟩
def wp_X8_order_52 (Q : Int32 → II → Prop) (k82 : Int32 → Int32 → Int32 → Int32 → II → Prop) : Nat → Int32 → Int32 → Int32 → Int32 → Int32 → II → Prop
  | 0, _, _, _, _, _, _ => False
  | n + 1, x1, x2, x3, x4, x6, I => ((x2 ≤ x6 → (k82 x1 x2 x3 x4 I)) ∧ (¬ x2 ≤ x6 → (vp_in x6 7 ∧ (vp_in ((nI 1331) + x6) 1372 ∧ ∀ I4 : II, I4 = su I 316 ((nI 1331) + x6).toNatClampNeg (I 323 x6.toNatClampNeg) → (wp_X8_order_52 Q k82 n x1 x2 x3 x4 (x6 + (nI 1)) I4)))))
set_option maxHeartbeats 4000000 in
set_option maxRecDepth 100000 in
theorem w_X8_order_52 {E : EE} {p : Program} {l : Launch} {e : Env} {s : State} {m : MethodId} {args : Array Value} {below : List Frame} {meth : Method} {c : Code} {Q : Int32 → II → Prop} {k82 : Int32 → Int32 → Int32 → Int32 → II → Prop} (X : CX E p s m args meth c cX8_order 9 (some .int) RX8) (K82 : ∀ (x1 : Int32) (x2 : Int32) (x3 : Int32) (x4 : Int32) (I : II) (H : Heap) (locs : List Loc) (ls : Array Slot), k82 x1 x2 x3 x4 I → PP E s H locs I → lv_has ls 9 [(0, .ref (E.2.1 315)), (1, .int x1), (2, .int x2), (3, .int x3), (4, .int x4)] → W p l e rmX8_order s m args below meth c H locs 0 0 (MQ below (va_Qi Q (BU E) E.2.2.2.1) args s 0 0 E.2.2.2.1) (F0 m 82 ls [])) : ∀ (n : Nat) (x1 : Int32) (x2 : Int32) (x3 : Int32) (x4 : Int32) (x6 : Int32) (I : II) (H : Heap) (locs : List Loc) (ls : Array Slot), wp_X8_order_52 Q k82 n x1 x2 x3 x4 x6 I → PP E s H locs I → lv_has ls 9 [(0, .ref (E.2.1 315)), (1, .int x1), (2, .int x2), (3, .int x3), (4, .int x4), (6, .int x6)] → W p l e rmX8_order s m args below meth c H locs 0 0 (MQ below (va_Qi Q (BU E) E.2.2.2.1) args s 0 0 E.2.2.2.1) (F0 m 52 ls []) := by
  obtain ⟨⟨hx, hb, hml, hown, hts⟩, hr, hlk, hK, hST, hN⟩ := id X
  intro n
  induction n with
  | zero =>
    intro x1 x2 x3 x4 x6 I H locs ls h hp hl
    exact False.elim h
  | succ n ih =>
    intro x1 x2 x3 x4 x6 I H locs ls h hp hl
    rw [wp_X8_order_52.eq_2] at h
    refine lv_iload hx hb dX8_order_52 (lv_at hl 5 rfl) ?_
    refine lv_iload_n hx hb dX8_order_54 rfl (lv_at hl 2 rfl) ?_
    refine lv_icmp_ge (tgt := 82) hx hb dX8_order_55 (by decide) (fun c1 => ?_) (fun c1 => ?_)
    · have h := h.1 c1
      exact K82 _ _ _ _ _ _ _ _ h hp (lv_sub hl [0, 1, 2, 3, 4] rfl)
    · have h := h.2 c1
      refine lv_aload_n hx hb dX8_order_58 rfl (lv_at hl 0 rfl) ?_
      refine f_X8_7 X hp dX8_order_59 ?_
      refine lv_sipush (v := (nI 1331)) hx hb dX8_order_62 (by decide) ?_
      refine lv_iload hx hb dX8_order_65 (lv_at hl 5 rfl) ?_
      refine lv_iadd hx hb dX8_order_67 ?_
      refine lv_aload_n hx hb dX8_order_68 rfl (lv_at hl 0 rfl) ?_
      refine f_X8_32 X hp dX8_order_69 ?_
      refine lv_iload hx hb dX8_order_72 (lv_at hl 5 rfl) ?_
      have hv2 := h.1
      have h := h.2
      refine al_i X hp ar_s323 hv2 dX8_order_74 ?_
      have hv3 := h.1
      have h := h.2
      refine as_i X hp ar_s316 hv3 dX8_order_75 (fun H locs hp => ?_)
      obtain ⟨I4, e5⟩ : ∃ y, y = su I 316 ((nI 1331) + x6).toNatClampNeg (I 323 x6.toNatClampNeg) := ⟨_, rfl⟩
      have hp : PP E s H locs I4 := by rw [e5]; exact hp
      have h := h I4 e5
      refine lv_iinc (v := (x6 + (nI 1))) (lv' := [(6, .int (x6 + (nI 1))), (0, .ref (E.2.1 315)), (1, .int x1), (2, .int x2), (3, .int x3), (4, .int x4)]) hx hb dX8_order_76 hl (k := 5) rfl rfl (by decide) rfl (fun ls hl => ?_)
      refine lv_goto (tgt := 52) hx hb dX8_order_79 (by decide) ?_
      exact ih _ _ _ _ _ _ _ _ _ h hp (lv_sub hl [1, 2, 3, 4, 5, 0] rfl)
def wp_X8_order_145 (Q : Int32 → II → Prop) (k171 : Int32 → Int32 → Int32 → Int32 → II → Prop) : Nat → Int32 → Int32 → Int32 → Int32 → Int32 → II → Prop
  | 0, _, _, _, _, _, _ => False
  | n + 1, x1, x2, x3, x4, x8, I => ((x2 ≤ x8 → (k171 x1 x2 x3 x4 I)) ∧ (¬ x2 ≤ x8 → (vp_in x8 7 ∧ (vp_in x8 7 ∧ ∀ I4 : II, I4 = su I 324 x8.toNatClampNeg (I 323 x8.toNatClampNeg) → (wp_X8_order_145 Q k171 n x1 x2 x3 x4 (x8 + (nI 1)) I4)))))
set_option maxHeartbeats 4000000 in
set_option maxRecDepth 100000 in
theorem w_X8_order_145 {E : EE} {p : Program} {l : Launch} {e : Env} {s : State} {m : MethodId} {args : Array Value} {below : List Frame} {meth : Method} {c : Code} {Q : Int32 → II → Prop} {k171 : Int32 → Int32 → Int32 → Int32 → II → Prop} (X : CX E p s m args meth c cX8_order 9 (some .int) RX8) (K171 : ∀ (x1 : Int32) (x2 : Int32) (x3 : Int32) (x4 : Int32) (I : II) (H : Heap) (locs : List Loc) (ls : Array Slot), k171 x1 x2 x3 x4 I → PP E s H locs I → lv_has ls 9 [(0, .ref (E.2.1 315)), (1, .int x1), (2, .int x2), (3, .int x3), (4, .int x4)] → W p l e rmX8_order s m args below meth c H locs 0 0 (MQ below (va_Qi Q (BU E) E.2.2.2.1) args s 0 0 E.2.2.2.1) (F0 m 171 ls [])) : ∀ (n : Nat) (x1 : Int32) (x2 : Int32) (x3 : Int32) (x4 : Int32) (x8 : Int32) (I : II) (H : Heap) (locs : List Loc) (ls : Array Slot), wp_X8_order_145 Q k171 n x1 x2 x3 x4 x8 I → PP E s H locs I → lv_has ls 9 [(0, .ref (E.2.1 315)), (1, .int x1), (2, .int x2), (3, .int x3), (4, .int x4), (8, .int x8)] → W p l e rmX8_order s m args below meth c H locs 0 0 (MQ below (va_Qi Q (BU E) E.2.2.2.1) args s 0 0 E.2.2.2.1) (F0 m 145 ls []) := by
  obtain ⟨⟨hx, hb, hml, hown, hts⟩, hr, hlk, hK, hST, hN⟩ := id X
  intro n
  induction n with
  | zero =>
    intro x1 x2 x3 x4 x8 I H locs ls h hp hl
    exact False.elim h
  | succ n ih =>
    intro x1 x2 x3 x4 x8 I H locs ls h hp hl
    rw [wp_X8_order_145.eq_2] at h
    refine lv_iload hx hb dX8_order_145 (lv_at hl 5 rfl) ?_
    refine lv_iload_n hx hb dX8_order_147 rfl (lv_at hl 2 rfl) ?_
    refine lv_icmp_ge (tgt := 171) hx hb dX8_order_148 (by decide) (fun c1 => ?_) (fun c1 => ?_)
    · have h := h.1 c1
      exact K171 _ _ _ _ _ _ _ _ h hp (lv_sub hl [0, 1, 2, 3, 4] rfl)
    · have h := h.2 c1
      refine lv_aload_n hx hb dX8_order_151 rfl (lv_at hl 0 rfl) ?_
      refine f_X8_35 X hp dX8_order_152 ?_
      refine lv_iload hx hb dX8_order_155 (lv_at hl 5 rfl) ?_
      refine lv_aload_n hx hb dX8_order_157 rfl (lv_at hl 0 rfl) ?_
      refine f_X8_32 X hp dX8_order_158 ?_
      refine lv_iload hx hb dX8_order_161 (lv_at hl 5 rfl) ?_
      have hv2 := h.1
      have h := h.2
      refine al_i X hp ar_s323 hv2 dX8_order_163 ?_
      have hv3 := h.1
      have h := h.2
      refine as_i X hp ar_s324 hv3 dX8_order_164 (fun H locs hp => ?_)
      obtain ⟨I4, e5⟩ : ∃ y, y = su I 324 x8.toNatClampNeg (I 323 x8.toNatClampNeg) := ⟨_, rfl⟩
      have hp : PP E s H locs I4 := by rw [e5]; exact hp
      have h := h I4 e5
      refine lv_iinc (v := (x8 + (nI 1))) (lv' := [(8, .int (x8 + (nI 1))), (0, .ref (E.2.1 315)), (1, .int x1), (2, .int x2), (3, .int x3), (4, .int x4)]) hx hb dX8_order_165 hl (k := 5) rfl rfl (by decide) rfl (fun ls hl => ?_)
      refine lv_goto (tgt := 145) hx hb dX8_order_168 (by decide) ?_
      exact ih _ _ _ _ _ _ _ _ _ h hp (lv_sub hl [1, 2, 3, 4, 5, 0] rfl)
def wp_X8_order_171 (Q : Int32 → II → Prop) (k39 : Int32 → Int32 → Int32 → Int32 → Int32 → II → Prop) (x1 : Int32) (x2 : Int32) (x3 : Int32) (x4 : Int32) (I : II) : Prop := (wp_X8_nextLine I (fun r2 I1 => (k39 x1 x2 x3 x4 r2 I1)))
set_option maxHeartbeats 4000000 in
set_option maxRecDepth 100000 in
theorem w_X8_order_171 {E : EE} {p : Program} {l : Launch} {e : Env} {s : State} {m : MethodId} {args : Array Value} {below : List Frame} {meth : Method} {c : Code} {Q : Int32 → II → Prop} {k39 : Int32 → Int32 → Int32 → Int32 → Int32 → II → Prop} (X : CX E p s m args meth c cX8_order 9 (some .int) RX8) (K39 : ∀ (x1 : Int32) (x2 : Int32) (x3 : Int32) (x4 : Int32) (x5 : Int32) (I : II) (H : Heap) (locs : List Loc) (ls : Array Slot), k39 x1 x2 x3 x4 x5 I → PP E s H locs I → lv_has ls 9 [(0, .ref (E.2.1 315)), (1, .int x1), (2, .int x2), (3, .int x3), (4, .int x4), (5, .int x5)] → W p l e rmX8_order s m args below meth c H locs 0 0 (MQ below (va_Qi Q (BU E) E.2.2.2.1) args s 0 0 E.2.2.2.1) (F0 m 39 ls [])) : ∀ (x1 : Int32) (x2 : Int32) (x3 : Int32) (x4 : Int32) (I : II) (H : Heap) (locs : List Loc) (ls : Array Slot), wp_X8_order_171 Q k39 x1 x2 x3 x4 I → PP E s H locs I → lv_has ls 9 [(0, .ref (E.2.1 315)), (1, .int x1), (2, .int x2), (3, .int x3), (4, .int x4)] → W p l e rmX8_order s m args below meth c H locs 0 0 (MQ below (va_Qi Q (BU E) E.2.2.2.1) args s 0 0 E.2.2.2.1) (F0 m 171 ls []) := by
  obtain ⟨⟨hx, hb, hml, hown, hts⟩, hr, hlk, hK, hST, hN⟩ := id X
  intro x1 x2 x3 x4 I H locs ls h hp hl
  unfold wp_X8_order_171 at h
  refine lv_aload_n hx hb dX8_order_171 rfl (lv_at hl 0 rfl) ?_
  refine ki (kV (As := []) (rest := []) X hp (C_X8_nextLine  h) tw_ml_X8_211 vf_X8_nextLine ⟨rfl, rfl, Nat.le_of_ble_eq_true rfl, Nat.le_of_ble_eq_true rfl⟩ (pr_rcv X hp (k := 315) (by decide) (ob_315 _) (q := (RX8, TX8, 18)) rfl) rfl hl.1 rfl (Nat.le_of_ble_eq_true rfl) dX8_order_172) hp (fun r2 I1 H locs h hp => ?_)
  refine lv_istore (lv' := [(5, .int r2), (0, .ref (E.2.1 315)), (1, .int x1), (2, .int x2), (3, .int x3), (4, .int x4)]) hx hb dX8_order_175 hl (by decide) rfl (fun ls hl => ?_)
  refine lv_goto (tgt := 39) hx hb dX8_order_177 (by decide) ?_
  exact K39 _ _ _ _ _ _ _ _ _ h hp (lv_sub hl [1, 2, 3, 4, 5, 0] rfl)
def wp_X8_order_135 (Q : Int32 → II → Prop) (k39 : Int32 → Int32 → Int32 → Int32 → Int32 → II → Prop) (x1 : Int32) (x2 : Int32) (x6 : Int32) (x7 : Int32) (I : II) : Prop := (∃ n51, wp_X8_order_145 Q (fun x1 x2 x3 x4 I => (wp_X8_order_171 Q k39 x1 x2 x3 x4 I)) n51 x1 x2 x6 x7 (nI 0) I)
set_option maxHeartbeats 4000000 in
set_option maxRecDepth 100000 in
theorem w_X8_order_135 {E : EE} {p : Program} {l : Launch} {e : Env} {s : State} {m : MethodId} {args : Array Value} {below : List Frame} {meth : Method} {c : Code} {Q : Int32 → II → Prop} {k39 : Int32 → Int32 → Int32 → Int32 → Int32 → II → Prop} (X : CX E p s m args meth c cX8_order 9 (some .int) RX8) (K39 : ∀ (x1 : Int32) (x2 : Int32) (x3 : Int32) (x4 : Int32) (x5 : Int32) (I : II) (H : Heap) (locs : List Loc) (ls : Array Slot), k39 x1 x2 x3 x4 x5 I → PP E s H locs I → lv_has ls 9 [(0, .ref (E.2.1 315)), (1, .int x1), (2, .int x2), (3, .int x3), (4, .int x4), (5, .int x5)] → W p l e rmX8_order s m args below meth c H locs 0 0 (MQ below (va_Qi Q (BU E) E.2.2.2.1) args s 0 0 E.2.2.2.1) (F0 m 39 ls [])) : ∀ (x1 : Int32) (x2 : Int32) (x6 : Int32) (x7 : Int32) (I : II) (H : Heap) (locs : List Loc) (ls : Array Slot), wp_X8_order_135 Q k39 x1 x2 x6 x7 I → PP E s H locs I → lv_has ls 9 [(0, .ref (E.2.1 315)), (1, .int x1), (2, .int x2), (6, .int x6), (7, .int x7)] → W p l e rmX8_order s m args below meth c H locs 0 0 (MQ below (va_Qi Q (BU E) E.2.2.2.1) args s 0 0 E.2.2.2.1) (F0 m 135 ls []) := by
  obtain ⟨⟨hx, hb, hml, hown, hts⟩, hr, hlk, hK, hST, hN⟩ := id X
  intro x1 x2 x6 x7 I H locs ls h hp hl
  unfold wp_X8_order_135 at h
  refine lv_iload hx hb dX8_order_135 (lv_at hl 3 rfl) ?_
  refine lv_istore_n (lv' := [(3, .int x6), (0, .ref (E.2.1 315)), (1, .int x1), (2, .int x2), (6, .int x6), (7, .int x7)]) hx hb dX8_order_137 rfl hl (by decide) rfl (fun ls hl => ?_)
  refine lv_iload hx hb dX8_order_138 (lv_at hl 5 rfl) ?_
  refine lv_istore (lv' := [(4, .int x7), (3, .int x6), (0, .ref (E.2.1 315)), (1, .int x1), (2, .int x2), (6, .int x6), (7, .int x7)]) hx hb dX8_order_140 hl (by decide) rfl (fun ls hl => ?_)
  refine lv_iconst (v := (nI 0)) hx hb dX8_order_142 (by decide) ?_
  refine lv_istore (lv' := [(8, .int (nI 0)), (4, .int x7), (3, .int x6), (0, .ref (E.2.1 315)), (1, .int x1), (2, .int x2), (6, .int x6), (7, .int x7)]) hx hb dX8_order_143 hl (by decide) rfl (fun ls hl => ?_)
  obtain ⟨n51, h⟩ := h
  refine w_X8_order_145 X ?_ n51 _ _ _ _ _ _ _ _ _ h hp (lv_sub hl [3, 4, 5, 2, 1, 0] rfl)
  · intro x1 x2 x3 x4 I H locs ls h hp hl
    exact w_X8_order_171 X K39 _ _ _ _ _ _ _ _ h hp (lv_sub hl [0, 1, 2, 3, 4] rfl)
def wp_X8_order_39 (Q : Int32 → II → Prop) (k180 : Int32 → Int32 → Int32 → Int32 → II → Prop) : Nat → Int32 → Int32 → Int32 → Int32 → Int32 → II → Prop
  | 0, _, _, _, _, _, _ => False
  | n + 1, x1, x2, x3, x4, x5, I => ((x5 = 0 → (k180 x1 x2 x3 x4 I)) ∧ (¬ x5 = 0 → (wp_X8_layTried (nI 0) I (fun I2 => (∃ n63, wp_X8_order_52 Q (fun x1 x2 x3 x4 I => (wp_X8_passes (nI 1323) x2 I (fun I54 => (vp_in (nI 1327) 1372 ∧ (vp_in (nI 4) 1372 ∧ (wp_X8_leftAt (nI 1323) I54 (fun r59 I58 => ((x3 < ((I54 316 (nI 1327).toNatClampNeg) - (I54 316 (nI 4).toNatClampNeg)) → (wp_X8_order_135 Q (fun x1 x2 x3 x4 x5 I => wp_X8_order_39 Q k180 n x1 x2 x3 x4 x5 I) x1 x2 ((I54 316 (nI 1327).toNatClampNeg) - (I54 316 (nI 4).toNatClampNeg)) r59 I58)) ∧ (¬ x3 < ((I54 316 (nI 1327).toNatClampNeg) - (I54 316 (nI 4).toNatClampNeg)) → ((¬ ((I54 316 (nI 1327).toNatClampNeg) - (I54 316 (nI 4).toNatClampNeg)) = x3 → (wp_X8_order_171 Q (fun x1 x2 x3 x4 x5 I => wp_X8_order_39 Q k180 n x1 x2 x3 x4 x5 I) x1 x2 x3 x4 I58)) ∧ (((I54 316 (nI 1327).toNatClampNeg) - (I54 316 (nI 4).toNatClampNeg)) = x3 → ((r59 ≤ x4 → (wp_X8_order_171 Q (fun x1 x2 x3 x4 x5 I => wp_X8_order_39 Q k180 n x1 x2 x3 x4 x5 I) x1 x2 x3 x4 I58)) ∧ (¬ r59 ≤ x4 → (wp_X8_order_135 Q (fun x1 x2 x3 x4 x5 I => wp_X8_order_39 Q k180 n x1 x2 x3 x4 x5 I) x1 x2 ((I54 316 (nI 1327).toNatClampNeg) - (I54 316 (nI 4).toNatClampNeg)) r59 I58)))))))))))))) n63 x1 x2 x3 x4 (nI 0) I2)))))
set_option maxHeartbeats 4000000 in
set_option maxRecDepth 100000 in
theorem w_X8_order_39 {E : EE} {p : Program} {l : Launch} {e : Env} {s : State} {m : MethodId} {args : Array Value} {below : List Frame} {meth : Method} {c : Code} {Q : Int32 → II → Prop} {k180 : Int32 → Int32 → Int32 → Int32 → II → Prop} (X : CX E p s m args meth c cX8_order 9 (some .int) RX8) (K180 : ∀ (x1 : Int32) (x2 : Int32) (x3 : Int32) (x4 : Int32) (I : II) (H : Heap) (locs : List Loc) (ls : Array Slot), k180 x1 x2 x3 x4 I → PP E s H locs I → lv_has ls 9 [(0, .ref (E.2.1 315)), (1, .int x1), (2, .int x2), (3, .int x3), (4, .int x4)] → W p l e rmX8_order s m args below meth c H locs 0 0 (MQ below (va_Qi Q (BU E) E.2.2.2.1) args s 0 0 E.2.2.2.1) (F0 m 180 ls [])) : ∀ (n : Nat) (x1 : Int32) (x2 : Int32) (x3 : Int32) (x4 : Int32) (x5 : Int32) (I : II) (H : Heap) (locs : List Loc) (ls : Array Slot), wp_X8_order_39 Q k180 n x1 x2 x3 x4 x5 I → PP E s H locs I → lv_has ls 9 [(0, .ref (E.2.1 315)), (1, .int x1), (2, .int x2), (3, .int x3), (4, .int x4), (5, .int x5)] → W p l e rmX8_order s m args below meth c H locs 0 0 (MQ below (va_Qi Q (BU E) E.2.2.2.1) args s 0 0 E.2.2.2.1) (F0 m 39 ls []) := by
  obtain ⟨⟨hx, hb, hml, hown, hts⟩, hr, hlk, hK, hST, hN⟩ := id X
  intro n
  induction n with
  | zero =>
    intro x1 x2 x3 x4 x5 I H locs ls h hp hl
    exact False.elim h
  | succ n ih =>
    intro x1 x2 x3 x4 x5 I H locs ls h hp hl
    rw [wp_X8_order_39.eq_2] at h
    refine lv_iload hx hb dX8_order_39 (lv_at hl 5 rfl) ?_
    refine lv_if_eq (tgt := 180) hx hb dX8_order_41 (by decide) (fun c1 => ?_) (fun c1 => ?_)
    · have h := h.1 c1
      exact K180 _ _ _ _ _ _ _ _ h hp (lv_sub hl [0, 1, 2, 3, 4] rfl)
    · have h := h.2 c1
      refine lv_aload_n hx hb dX8_order_44 rfl (lv_at hl 0 rfl) ?_
      refine lv_iconst (v := (nI 0)) hx hb dX8_order_45 (by decide) ?_
      refine kv (kV (As := [.int (nI 0)]) (rest := []) X hp (C_X8_layTried  h) tw_ml_X8_199 vf_X8_layTried ⟨rfl, rfl, Nat.le_of_ble_eq_true rfl, Nat.le_of_ble_eq_true rfl⟩ (pr_rcv X hp (k := 315) (by decide) (ob_315 _) (q := (RX8, TX8, 18)) rfl) rfl hl.1 rfl (Nat.le_of_ble_eq_true rfl) dX8_order_46) hp (fun I2 H locs h hp => ?_)
      refine lv_iconst (v := (nI 0)) hx hb dX8_order_49 (by decide) ?_
      refine lv_istore (lv' := [(6, .int (nI 0)), (0, .ref (E.2.1 315)), (1, .int x1), (2, .int x2), (3, .int x3), (4, .int x4), (5, .int x5)]) hx hb dX8_order_50 hl (by decide) rfl (fun ls hl => ?_)
      obtain ⟨n63, h⟩ := h
      refine w_X8_order_52 X ?_ n63 _ _ _ _ _ _ _ _ _ h hp (lv_sub hl [1, 2, 3, 4, 5, 0] rfl)
      · intro x1 x2 x3 x4 I H locs ls h hp hl
        refine lv_aload_n hx hb dX8_order_82 rfl (lv_at hl 0 rfl) ?_
        refine lv_sipush (v := (nI 1323)) hx hb dX8_order_83 (by decide) ?_
        refine lv_iload_n hx hb dX8_order_86 rfl (lv_at hl 2 rfl) ?_
        refine kv (kV (As := [.int (nI 1323), .int x2]) (rest := []) X hp (C_X8_passes  h) tw_ml_X8_194 vf_X8_passes ⟨rfl, rfl, Nat.le_of_ble_eq_true rfl, Nat.le_of_ble_eq_true rfl⟩ (pr_rcv X hp (k := 315) (by decide) (ob_315 _) (q := (RX8, TX8, 18)) rfl) rfl hl.1 rfl (Nat.le_of_ble_eq_true rfl) dX8_order_87) hp (fun I54 H locs h hp => ?_)
        refine lv_aload_n hx hb dX8_order_90 rfl (lv_at hl 0 rfl) ?_
        refine f_X8_7 X hp dX8_order_91 ?_
        refine lv_sipush (v := (nI 1327)) hx hb dX8_order_94 (by decide) ?_
        have hv56 := h.1
        have h := h.2
        refine al_i X hp ar_s316 hv56 dX8_order_97 ?_
        refine lv_aload_n hx hb dX8_order_98 rfl (lv_at hl 0 rfl) ?_
        refine f_X8_7 X hp dX8_order_99 ?_
        refine lv_iconst (v := (nI 4)) hx hb dX8_order_102 (by decide) ?_
        have hv57 := h.1
        have h := h.2
        refine al_i X hp ar_s316 hv57 dX8_order_103 ?_
        refine lv_isub hx hb dX8_order_104 ?_
        refine lv_istore (lv' := [(6, .int ((I54 316 (nI 1327).toNatClampNeg) - (I54 316 (nI 4).toNatClampNeg))), (0, .ref (E.2.1 315)), (1, .int x1), (2, .int x2), (3, .int x3), (4, .int x4)]) hx hb dX8_order_105 hl (by decide) rfl (fun ls hl => ?_)
        refine lv_aload_n hx hb dX8_order_107 rfl (lv_at hl 1 rfl) ?_
        refine lv_sipush (v := (nI 1323)) hx hb dX8_order_108 (by decide) ?_
        refine ki (kV (As := [.int (nI 1323)]) (rest := []) X hp (C_X8_leftAt  h) tw_ml_X8_208 vf_X8_leftAt ⟨rfl, rfl, Nat.le_of_ble_eq_true rfl, Nat.le_of_ble_eq_true rfl⟩ (pr_rcv X hp (k := 315) (by decide) (ob_315 _) (q := (RX8, TX8, 18)) rfl) rfl hl.1 rfl (Nat.le_of_ble_eq_true rfl) dX8_order_111) hp (fun r59 I58 H locs h hp => ?_)
        refine lv_istore (lv' := [(7, .int r59), (6, .int ((I54 316 (nI 1327).toNatClampNeg) - (I54 316 (nI 4).toNatClampNeg))), (0, .ref (E.2.1 315)), (1, .int x1), (2, .int x2), (3, .int x3), (4, .int x4)]) hx hb dX8_order_114 hl (by decide) rfl (fun ls hl => ?_)
        refine lv_iload hx hb dX8_order_116 (lv_at hl 1 rfl) ?_
        refine lv_iload_n hx hb dX8_order_118 rfl (lv_at hl 5 rfl) ?_
        refine lv_icmp_gt (tgt := 135) hx hb dX8_order_119 (by decide) (fun c60 => ?_) (fun c60 => ?_)
        · have h := h.1 c60
          exact w_X8_order_135 X ih _ _ _ _ _ _ _ _ h hp (lv_sub hl [2, 3, 4, 1, 0] rfl)
        · have h := h.2 c60
          refine lv_iload hx hb dX8_order_122 (lv_at hl 1 rfl) ?_
          refine lv_iload_n hx hb dX8_order_124 rfl (lv_at hl 5 rfl) ?_
          refine lv_icmp_ne (tgt := 171) hx hb dX8_order_125 (by decide) (fun c61 => ?_) (fun c61 => ?_)
          · have h := h.1 c61
            exact w_X8_order_171 X ih _ _ _ _ _ _ _ _ h hp (lv_sub hl [2, 3, 4, 5, 6] rfl)
          · have h := h.2 c61
            refine lv_iload hx hb dX8_order_128 (lv_at hl 0 rfl) ?_
            refine lv_iload hx hb dX8_order_130 (lv_at hl 6 rfl) ?_
            refine lv_icmp_le (tgt := 171) hx hb dX8_order_132 (by decide) (fun c62 => ?_) (fun c62 => ?_)
            · have h := h.1 c62
              exact w_X8_order_171 X ih _ _ _ _ _ _ _ _ h hp (lv_sub hl [2, 3, 4, 5, 6] rfl)
            · have h := h.2 c62
              exact w_X8_order_135 X ih _ _ _ _ _ _ _ _ h hp (lv_sub hl [2, 3, 4, 1, 0] rfl)
def wp_X8_order (x1 : Int32) (I : II) (Q : Int32 → II → Prop) : Prop := ((¬ (I 315 1) = 0 → (((-nI 2) ≤ x1 → (vp_in (nI 7) 1372 ∧ (wp_X8_layLine I (fun I4 => (∃ n60, wp_X8_order_39 Q (fun x1 x2 x3 x4 I => ((¬ x1 = (-nI 1) → ((¬ x1 = (-nI 2) → ((x2 ≤ x1 → (Q (-nI 1000000) I)) ∧ (¬ x2 ≤ x1 → (vp_in x1 7 ∧ (Q (I 324 x1.toNatClampNeg) I))))) ∧ (x1 = (-nI 2) → (Q x4 I)))) ∧ (x1 = (-nI 1) → (Q x3 I)))) n60 x1 (I 316 (nI 7).toNatClampNeg) (-nI 1) (nI 0) (nI 1) I4))))) ∧ (¬ (-nI 2) ≤ x1 → (Q (-nI 1000001) I)))) ∧ ((I 315 1) = 0 → (Q (-nI 1000002) I)))
set_option maxHeartbeats 4000000 in
set_option maxRecDepth 100000 in
theorem w_X8_order_0 {E : EE} {p : Program} {l : Launch} {e : Env} {s : State} {m : MethodId} {args : Array Value} {below : List Frame} {meth : Method} {c : Code} {Q : Int32 → II → Prop} (X : CX E p s m args meth c cX8_order 9 (some .int) RX8) : ∀ (x1 : Int32) (I : II) (H : Heap) (locs : List Loc) (ls : Array Slot), wp_X8_order x1 I Q → PP E s H locs I → lv_has ls 9 [(0, .ref (E.2.1 315)), (1, .int x1)] → W p l e rmX8_order s m args below meth c H locs 0 0 (MQ below (va_Qi Q (BU E) E.2.2.2.1) args s 0 0 E.2.2.2.1) (F0 m 0 ls []) := by
  obtain ⟨⟨hx, hb, hml, hown, hts⟩, hr, hlk, hK, hST, hN⟩ := id X
  intro x1 I H locs ls h hp hl
  unfold wp_X8_order at h
  refine lv_aload_n hx hb dX8_order_0 rfl (lv_at hl 0 rfl) ?_
  refine f_X8_137 X hp dX8_order_1 ?_
  refine lv_if_ne (tgt := 10) hx hb dX8_order_4 (by decide) (fun c1 => ?_) (fun c1 => ?_)
  · have h := h.1 c1
    refine lv_iload_n hx hb dX8_order_10 rfl (lv_at hl 1 rfl) ?_
    refine lv_bipush (v := (-nI 2)) hx hb dX8_order_11 (by decide) ?_
    refine lv_icmp_ge (tgt := 19) hx hb dX8_order_13 (by decide) (fun c2 => ?_) (fun c2 => ?_)
    · have h := h.1 c2
      refine lv_aload_n hx hb dX8_order_19 rfl (lv_at hl 0 rfl) ?_
      refine f_X8_7 X hp dX8_order_20 ?_
      refine lv_bipush (v := (nI 7)) hx hb dX8_order_23 (by decide) ?_
      have hv3 := h.1
      have h := h.2
      refine al_i X hp ar_s316 hv3 dX8_order_25 ?_
      refine lv_istore_n (lv' := [(2, .int (I 316 (nI 7).toNatClampNeg)), (0, .ref (E.2.1 315)), (1, .int x1)]) hx hb dX8_order_26 rfl hl (by decide) rfl (fun ls hl => ?_)
      refine lv_iconst (v := (-nI 1)) hx hb dX8_order_27 (by decide) ?_
      refine lv_istore_n (lv' := [(3, .int (-nI 1)), (2, .int (I 316 (nI 7).toNatClampNeg)), (0, .ref (E.2.1 315)), (1, .int x1)]) hx hb dX8_order_28 rfl hl (by decide) rfl (fun ls hl => ?_)
      refine lv_iconst (v := (nI 0)) hx hb dX8_order_29 (by decide) ?_
      refine lv_istore (lv' := [(4, .int (nI 0)), (3, .int (-nI 1)), (2, .int (I 316 (nI 7).toNatClampNeg)), (0, .ref (E.2.1 315)), (1, .int x1)]) hx hb dX8_order_30 hl (by decide) rfl (fun ls hl => ?_)
      refine lv_iconst (v := (nI 1)) hx hb dX8_order_32 (by decide) ?_
      refine lv_istore (lv' := [(5, .int (nI 1)), (4, .int (nI 0)), (3, .int (-nI 1)), (2, .int (I 316 (nI 7).toNatClampNeg)), (0, .ref (E.2.1 315)), (1, .int x1)]) hx hb dX8_order_33 hl (by decide) rfl (fun ls hl => ?_)
      refine lv_aload_n hx hb dX8_order_35 rfl (lv_at hl 4 rfl) ?_
      refine kv (kV (As := []) (rest := []) X hp (C_X8_layLine  h) tw_ml_X8_205 vf_X8_layLine ⟨rfl, rfl, Nat.le_of_ble_eq_true rfl, Nat.le_of_ble_eq_true rfl⟩ (pr_rcv X hp (k := 315) (by decide) (ob_315 _) (q := (RX8, TX8, 18)) rfl) rfl hl.1 rfl (Nat.le_of_ble_eq_true rfl) dX8_order_36) hp (fun I4 H locs h hp => ?_)
      obtain ⟨n60, h⟩ := h
      refine w_X8_order_39 X ?_ n60 _ _ _ _ _ _ _ _ _ h hp (lv_sub hl [4, 5, 3, 2, 1, 0] rfl)
      · intro x1 x2 x3 x4 I H locs ls h hp hl
        refine lv_iload_n hx hb dX8_order_180 rfl (lv_at hl 1 rfl) ?_
        refine lv_iconst (v := (-nI 1)) hx hb dX8_order_181 (by decide) ?_
        refine lv_icmp_ne (tgt := 189) hx hb dX8_order_182 (by decide) (fun c56 => ?_) (fun c56 => ?_)
        · have h := h.1 c56
          refine lv_iload_n hx hb dX8_order_189 rfl (lv_at hl 1 rfl) ?_
          refine lv_bipush (v := (-nI 2)) hx hb dX8_order_190 (by decide) ?_
          refine lv_icmp_ne (tgt := 200) hx hb dX8_order_192 (by decide) (fun c57 => ?_) (fun c57 => ?_)
          · have h := h.1 c57
            refine lv_iload_n hx hb dX8_order_200 rfl (lv_at hl 1 rfl) ?_
            refine lv_iload_n hx hb dX8_order_201 rfl (lv_at hl 2 rfl) ?_
            refine lv_icmp_ge (tgt := 214) hx hb dX8_order_202 (by decide) (fun c58 => ?_) (fun c58 => ?_)
            · have h := h.1 c58
              refine lv_ldc (v := (-nI 1000000)) hx hb hown (hts _ tw_k_X8_149) dX8_order_214 ?_
              exact rt_i X hp h dX8_order_216
            · have h := h.2 c58
              refine lv_aload_n hx hb dX8_order_205 rfl (lv_at hl 0 rfl) ?_
              refine f_X8_35 X hp dX8_order_206 ?_
              refine lv_iload_n hx hb dX8_order_209 rfl (lv_at hl 1 rfl) ?_
              have hv59 := h.1
              have h := h.2
              refine al_i X hp ar_s324 hv59 dX8_order_210 ?_
              refine lv_goto (tgt := 216) hx hb dX8_order_211 (by decide) ?_
              exact rt_i X hp h dX8_order_216
          · have h := h.2 c57
            refine lv_iload hx hb dX8_order_195 (lv_at hl 4 rfl) ?_
            refine lv_goto (tgt := 216) hx hb dX8_order_197 (by decide) ?_
            exact rt_i X hp h dX8_order_216
        · have h := h.2 c56
          refine lv_iload_n hx hb dX8_order_185 rfl (lv_at hl 3 rfl) ?_
          refine lv_goto (tgt := 216) hx hb dX8_order_186 (by decide) ?_
          exact rt_i X hp h dX8_order_216
    · have h := h.2 c2
      refine lv_ldc (v := (-nI 1000001)) hx hb hown (hts _ tw_k_X8_55) dX8_order_16 ?_
      exact rt_i X hp h dX8_order_18
  · have h := h.2 c1
    refine lv_ldc (v := (-nI 1000002)) hx hb hown (hts _ tw_k_X8_144) dX8_order_7 ?_
    exact rt_i X hp h dX8_order_9
set_option maxRecDepth 100000 in
theorem C_X8_order {E : EE} {l : Launch} {x1 : Int32} {I : II} {Q : Int32 → II → Prop} (h : wp_X8_order x1 I Q) : Met l yX8_order (Cond.code yX8_order cX8_order 9 (some .int) :: lwT) rmX8_order (va_Pc [.ref (E.2.1 315), .int x1] (PU E I)) (va_Qi Q (BU E) E.2.2.2.1) 0 0 E.2.2.2.1 :=
  ofWalk [.ref (E.2.1 315), .int x1] (by decide) tw_c_X8_order (Nat.le_of_ble_eq_true rfl) (fun p e s m below meth c ls X hp hl => w_X8_order_0 X _ _ _ _ _ h hp hl)
abbrev rmX8_poorestAt : Room := { frames := 0, cells := 0, slots := 0, locals := 0 }
theorem vf_X8_poorestAt : VF yX8_poorestAt RX8 cX8_poorestAt 4 (some .int) 1 := ⟨tw_in_X8, tw_im_X8_poorestAt, tw_se_X8_poorestAt, tw_c_X8_poorestAt, by decide, by decide, by decide +kernel⟩
def wp_X8_poorestAt_47 (Q : Int32 → II → Prop) (k5 : Int32 → Int32 → Int32 → II → Prop) (x1 : Int32) (x3 : Int32) (v0 : Int32) (I : II) : Prop := (k5 x1 v0 (x3 + (nI 1)) I)
set_option maxHeartbeats 4000000 in
set_option maxRecDepth 100000 in
theorem w_X8_poorestAt_47 {E : EE} {p : Program} {l : Launch} {e : Env} {s : State} {m : MethodId} {args : Array Value} {below : List Frame} {meth : Method} {c : Code} {Q : Int32 → II → Prop} {k5 : Int32 → Int32 → Int32 → II → Prop} (X : CX E p s m args meth c cX8_poorestAt 4 (some .int) RX8) (K5 : ∀ (x1 : Int32) (x2 : Int32) (x3 : Int32) (I : II) (H : Heap) (locs : List Loc) (ls : Array Slot), k5 x1 x2 x3 I → PP E s H locs I → lv_has ls 4 [(0, .ref (E.2.1 315)), (1, .int x1), (2, .int x2), (3, .int x3)] → W p l e rmX8_poorestAt s m args below meth c H locs 0 0 (MQ below (va_Qi Q (BU E) E.2.2.2.1) args s 0 0 E.2.2.2.1) (F0 m 5 ls [])) : ∀ (x1 : Int32) (x3 : Int32) (v0 : Int32) (I : II) (H : Heap) (locs : List Loc) (ls : Array Slot), wp_X8_poorestAt_47 Q k5 x1 x3 v0 I → PP E s H locs I → lv_has ls 4 [(0, .ref (E.2.1 315)), (1, .int x1), (3, .int x3)] → W p l e rmX8_poorestAt s m args below meth c H locs 0 0 (MQ below (va_Qi Q (BU E) E.2.2.2.1) args s 0 0 E.2.2.2.1) (F0 m 47 ls [.int v0]) := by
  obtain ⟨⟨hx, hb, hml, hown, hts⟩, hr, hlk, hK, hST, hN⟩ := id X
  intro x1 x3 v0 I H locs ls h hp hl
  unfold wp_X8_poorestAt_47 at h
  refine lv_istore_n (lv' := [(2, .int v0), (0, .ref (E.2.1 315)), (1, .int x1), (3, .int x3)]) hx hb dX8_poorestAt_47 rfl hl (by decide) rfl (fun ls hl => ?_)
  refine lv_iinc (v := (x3 + (nI 1))) (lv' := [(3, .int (x3 + (nI 1))), (2, .int v0), (0, .ref (E.2.1 315)), (1, .int x1)]) hx hb dX8_poorestAt_48 hl (k := 3) rfl rfl (by decide) rfl (fun ls hl => ?_)
  refine lv_goto (tgt := 5) hx hb dX8_poorestAt_51 (by decide) ?_
  exact K5 _ _ _ _ _ _ _ h hp (lv_sub hl [2, 3, 1, 0] rfl)
def wp_X8_poorestAt_5 (Q : Int32 → II → Prop) (k54 : Int32 → II → Prop) : Nat → Int32 → Int32 → Int32 → II → Prop
  | 0, _, _, _, _ => False
  | n + 1, x1, x2, x3, I => (vp_in (x1 + (nI 0)) 1372 ∧ (((I 316 (x1 + (nI 0)).toNatClampNeg) ≤ x3 → (k54 x2 I)) ∧ (¬ (I 316 (x1 + (nI 0)).toNatClampNeg) ≤ x3 → (vp_in ((x1 + (nI 41)) + x3) 1372 ∧ ((x2 ≤ (I 316 ((x1 + (nI 41)) + x3).toNatClampNeg) → (wp_X8_poorestAt_47 Q (fun x1 x2 x3 I => wp_X8_poorestAt_5 Q k54 n x1 x2 x3 I) x1 x3 x2 I)) ∧ (¬ x2 ≤ (I 316 ((x1 + (nI 41)) + x3).toNatClampNeg) → (vp_in ((x1 + (nI 41)) + x3) 1372 ∧ (wp_X8_poorestAt_47 Q (fun x1 x2 x3 I => wp_X8_poorestAt_5 Q k54 n x1 x2 x3 I) x1 x3 (I 316 ((x1 + (nI 41)) + x3).toNatClampNeg) I))))))))
set_option maxHeartbeats 4000000 in
set_option maxRecDepth 100000 in
theorem w_X8_poorestAt_5 {E : EE} {p : Program} {l : Launch} {e : Env} {s : State} {m : MethodId} {args : Array Value} {below : List Frame} {meth : Method} {c : Code} {Q : Int32 → II → Prop} {k54 : Int32 → II → Prop} (X : CX E p s m args meth c cX8_poorestAt 4 (some .int) RX8) (K54 : ∀ (x2 : Int32) (I : II) (H : Heap) (locs : List Loc) (ls : Array Slot), k54 x2 I → PP E s H locs I → lv_has ls 4 [(2, .int x2)] → W p l e rmX8_poorestAt s m args below meth c H locs 0 0 (MQ below (va_Qi Q (BU E) E.2.2.2.1) args s 0 0 E.2.2.2.1) (F0 m 54 ls [])) : ∀ (n : Nat) (x1 : Int32) (x2 : Int32) (x3 : Int32) (I : II) (H : Heap) (locs : List Loc) (ls : Array Slot), wp_X8_poorestAt_5 Q k54 n x1 x2 x3 I → PP E s H locs I → lv_has ls 4 [(0, .ref (E.2.1 315)), (1, .int x1), (2, .int x2), (3, .int x3)] → W p l e rmX8_poorestAt s m args below meth c H locs 0 0 (MQ below (va_Qi Q (BU E) E.2.2.2.1) args s 0 0 E.2.2.2.1) (F0 m 5 ls []) := by
  obtain ⟨⟨hx, hb, hml, hown, hts⟩, hr, hlk, hK, hST, hN⟩ := id X
  intro n
  induction n with
  | zero =>
    intro x1 x2 x3 I H locs ls h hp hl
    exact False.elim h
  | succ n ih =>
    intro x1 x2 x3 I H locs ls h hp hl
    rw [wp_X8_poorestAt_5.eq_2] at h
    refine lv_iload_n hx hb dX8_poorestAt_5 rfl (lv_at hl 3 rfl) ?_
    refine lv_aload_n hx hb dX8_poorestAt_6 rfl (lv_at hl 0 rfl) ?_
    refine f_X8_7 X hp dX8_poorestAt_7 ?_
    refine lv_iload_n hx hb dX8_poorestAt_10 rfl (lv_at hl 1 rfl) ?_
    refine lv_iconst (v := (nI 0)) hx hb dX8_poorestAt_11 (by decide) ?_
    refine lv_iadd hx hb dX8_poorestAt_12 ?_
    have hv1 := h.1
    have h := h.2
    refine al_i X hp ar_s316 hv1 dX8_poorestAt_13 ?_
    refine lv_icmp_ge (tgt := 54) hx hb dX8_poorestAt_14 (by decide) (fun c2 => ?_) (fun c2 => ?_)
    · have h := h.1 c2
      exact K54 _ _ _ _ _ h hp (lv_sub hl [2] rfl)
    · have h := h.2 c2
      refine lv_aload_n hx hb dX8_poorestAt_17 rfl (lv_at hl 0 rfl) ?_
      refine f_X8_7 X hp dX8_poorestAt_18 ?_
      refine lv_iload_n hx hb dX8_poorestAt_21 rfl (lv_at hl 1 rfl) ?_
      refine lv_bipush (v := (nI 41)) hx hb dX8_poorestAt_22 (by decide) ?_
      refine lv_iadd hx hb dX8_poorestAt_24 ?_
      refine lv_iload_n hx hb dX8_poorestAt_25 rfl (lv_at hl 3 rfl) ?_
      refine lv_iadd hx hb dX8_poorestAt_26 ?_
      have hv3 := h.1
      have h := h.2
      refine al_i X hp ar_s316 hv3 dX8_poorestAt_27 ?_
      refine lv_iload_n hx hb dX8_poorestAt_28 rfl (lv_at hl 2 rfl) ?_
      refine lv_icmp_ge (tgt := 46) hx hb dX8_poorestAt_29 (by decide) (fun c4 => ?_) (fun c4 => ?_)
      · have h := h.1 c4
        refine lv_iload_n hx hb dX8_poorestAt_46 rfl (lv_at hl 2 rfl) ?_
        exact w_X8_poorestAt_47 X ih _ _ _ _ _ _ _ h hp (lv_sub hl [0, 1, 3] rfl)
      · have h := h.2 c4
        refine lv_aload_n hx hb dX8_poorestAt_32 rfl (lv_at hl 0 rfl) ?_
        refine f_X8_7 X hp dX8_poorestAt_33 ?_
        refine lv_iload_n hx hb dX8_poorestAt_36 rfl (lv_at hl 1 rfl) ?_
        refine lv_bipush (v := (nI 41)) hx hb dX8_poorestAt_37 (by decide) ?_
        refine lv_iadd hx hb dX8_poorestAt_39 ?_
        refine lv_iload_n hx hb dX8_poorestAt_40 rfl (lv_at hl 3 rfl) ?_
        refine lv_iadd hx hb dX8_poorestAt_41 ?_
        have hv5 := h.1
        have h := h.2
        refine al_i X hp ar_s316 hv5 dX8_poorestAt_42 ?_
        refine lv_goto (tgt := 47) hx hb dX8_poorestAt_43 (by decide) ?_
        exact w_X8_poorestAt_47 X ih _ _ _ _ _ _ _ h hp (lv_sub hl [0, 1, 3] rfl)
def wp_X8_poorestAt (x1 : Int32) (I : II) (Q : Int32 → II → Prop) : Prop := (∃ n51, wp_X8_poorestAt_5 Q (fun x2 I => (Q x2 I)) n51 x1 (nI 99) (nI 0) I)
set_option maxHeartbeats 4000000 in
set_option maxRecDepth 100000 in
theorem w_X8_poorestAt_0 {E : EE} {p : Program} {l : Launch} {e : Env} {s : State} {m : MethodId} {args : Array Value} {below : List Frame} {meth : Method} {c : Code} {Q : Int32 → II → Prop} (X : CX E p s m args meth c cX8_poorestAt 4 (some .int) RX8) : ∀ (x1 : Int32) (I : II) (H : Heap) (locs : List Loc) (ls : Array Slot), wp_X8_poorestAt x1 I Q → PP E s H locs I → lv_has ls 4 [(0, .ref (E.2.1 315)), (1, .int x1)] → W p l e rmX8_poorestAt s m args below meth c H locs 0 0 (MQ below (va_Qi Q (BU E) E.2.2.2.1) args s 0 0 E.2.2.2.1) (F0 m 0 ls []) := by
  obtain ⟨⟨hx, hb, hml, hown, hts⟩, hr, hlk, hK, hST, hN⟩ := id X
  intro x1 I H locs ls h hp hl
  unfold wp_X8_poorestAt at h
  refine lv_bipush (v := (nI 99)) hx hb dX8_poorestAt_0 (by decide) ?_
  refine lv_istore_n (lv' := [(2, .int (nI 99)), (0, .ref (E.2.1 315)), (1, .int x1)]) hx hb dX8_poorestAt_2 rfl hl (by decide) rfl (fun ls hl => ?_)
  refine lv_iconst (v := (nI 0)) hx hb dX8_poorestAt_3 (by decide) ?_
  refine lv_istore_n (lv' := [(3, .int (nI 0)), (2, .int (nI 99)), (0, .ref (E.2.1 315)), (1, .int x1)]) hx hb dX8_poorestAt_4 rfl hl (by decide) rfl (fun ls hl => ?_)
  obtain ⟨n51, h⟩ := h
  refine w_X8_poorestAt_5 X ?_ n51 _ _ _ _ _ _ _ h hp (lv_sub hl [2, 3, 1, 0] rfl)
  · intro x2 I H locs ls h hp hl
    refine lv_iload_n hx hb dX8_poorestAt_54 rfl (lv_at hl 0 rfl) ?_
    exact rt_i X hp h dX8_poorestAt_55
set_option maxRecDepth 100000 in
theorem C_X8_poorestAt {E : EE} {l : Launch} {x1 : Int32} {I : II} {Q : Int32 → II → Prop} (h : wp_X8_poorestAt x1 I Q) : Met l yX8_poorestAt (Cond.code yX8_poorestAt cX8_poorestAt 4 (some .int) :: lwT) rmX8_poorestAt (va_Pc [.ref (E.2.1 315), .int x1] (PU E I)) (va_Qi Q (BU E) E.2.2.2.1) 0 0 E.2.2.2.1 :=
  ofWalk [.ref (E.2.1 315), .int x1] (by decide) tw_c_X8_poorestAt (Nat.le_of_ble_eq_true rfl) (fun p e s m below meth c ls X hp hl => w_X8_poorestAt_0 X _ _ _ _ _ h hp hl)
abbrev rmX8_servesBy : Room := { frames := 6, cells := 0, slots := 0, locals := 141 }
theorem vf_X8_servesBy : VF yX8_servesBy RX8 cX8_servesBy 6 (some .boolean) 2 := ⟨tw_in_X8, tw_im_X8_servesBy, tw_se_X8_servesBy, tw_c_X8_servesBy, by decide, by decide, by decide +kernel⟩
def wp_X8_servesBy_83 (Q : Int32 → II → Prop) (k7 : Int32 → Int32 → Int32 → II → Prop) (x1 : Int32) (x2 : Int32) (x3 : Int32) (x4 : Int32) (x5 : Int32) (I : II) : Prop := (wp_X8_takeFrom (nI 1323) x4 x5 I (fun I1 => (k7 x1 x2 (x3 + (nI 1)) I1)))
set_option maxHeartbeats 4000000 in
set_option maxRecDepth 100000 in
theorem w_X8_servesBy_83 {E : EE} {p : Program} {l : Launch} {e : Env} {s : State} {m : MethodId} {args : Array Value} {below : List Frame} {meth : Method} {c : Code} {Q : Int32 → II → Prop} {k7 : Int32 → Int32 → Int32 → II → Prop} (X : CX E p s m args meth c cX8_servesBy 6 (some .boolean) RX8) (K7 : ∀ (x1 : Int32) (x2 : Int32) (x3 : Int32) (I : II) (H : Heap) (locs : List Loc) (ls : Array Slot), k7 x1 x2 x3 I → PP E s H locs I → lv_has ls 6 [(0, .ref (E.2.1 315)), (1, .int x1), (2, .int x2), (3, .int x3)] → W p l e rmX8_servesBy s m args below meth c H locs 0 0 (MQ below (va_Qi Q (BU E) E.2.2.2.1) args s 0 0 E.2.2.2.1) (F0 m 7 ls [])) : ∀ (x1 : Int32) (x2 : Int32) (x3 : Int32) (x4 : Int32) (x5 : Int32) (I : II) (H : Heap) (locs : List Loc) (ls : Array Slot), wp_X8_servesBy_83 Q k7 x1 x2 x3 x4 x5 I → PP E s H locs I → lv_has ls 6 [(0, .ref (E.2.1 315)), (1, .int x1), (2, .int x2), (3, .int x3), (4, .int x4), (5, .int x5)] → W p l e rmX8_servesBy s m args below meth c H locs 0 0 (MQ below (va_Qi Q (BU E) E.2.2.2.1) args s 0 0 E.2.2.2.1) (F0 m 83 ls []) := by
  obtain ⟨⟨hx, hb, hml, hown, hts⟩, hr, hlk, hK, hST, hN⟩ := id X
  intro x1 x2 x3 x4 x5 I H locs ls h hp hl
  unfold wp_X8_servesBy_83 at h
  refine lv_aload_n hx hb dX8_servesBy_83 rfl (lv_at hl 0 rfl) ?_
  refine lv_sipush (v := (nI 1323)) hx hb dX8_servesBy_84 (by decide) ?_
  refine lv_iload hx hb dX8_servesBy_87 (lv_at hl 4 rfl) ?_
  refine lv_iload hx hb dX8_servesBy_89 (lv_at hl 5 rfl) ?_
  refine kv (kV (As := [.int (nI 1323), .int x4, .int x5]) (rest := []) X hp (C_X8_takeFrom  h) tw_ml_X8_159 vf_X8_takeFrom ⟨rfl, rfl, Nat.le_of_ble_eq_true rfl, Nat.le_of_ble_eq_true rfl⟩ (pr_rcv X hp (k := 315) (by decide) (ob_315 _) (q := (RX8, TX8, 18)) rfl) rfl hl.1 rfl (Nat.le_of_ble_eq_true rfl) dX8_servesBy_91) hp (fun I1 H locs h hp => ?_)
  refine lv_iinc (v := (x3 + (nI 1))) (lv' := [(3, .int (x3 + (nI 1))), (0, .ref (E.2.1 315)), (1, .int x1), (2, .int x2), (4, .int x4), (5, .int x5)]) hx hb dX8_servesBy_94 hl (k := 3) rfl rfl (by decide) rfl (fun ls hl => ?_)
  refine lv_goto (tgt := 7) hx hb dX8_servesBy_97 (by decide) ?_
  exact K7 _ _ _ _ _ _ _ h hp (lv_sub hl [1, 2, 3, 0] rfl)
def wp_X8_servesBy_7 (Q : Int32 → II → Prop) (k81 : II → Prop) (k100 : II → Prop) : Nat → Int32 → Int32 → Int32 → II → Prop
  | 0, _, _, _, _ => False
  | n + 1, x1, x2, x3, I => ((x2 ≤ x3 → (k100 I)) ∧ (¬ x2 ≤ x3 → (vp_in ((nI 8) + x3) 1372 ∧ (wp_X8_isTeller ((x1 >>> (((nI 2) * ((x2 - (nI 1)) - x3)) &&& 31)) &&& (nI 3)) I (fun r4 I3 => ((r4 = 0 → (k81 I3)) ∧ (¬ r4 = 0 → (vp_in ((nI 22) + (I 316 ((nI 8) + x3).toNatClampNeg)) 1372 ∧ ((¬ (I3 316 ((nI 22) + (I 316 ((nI 8) + x3).toNatClampNeg)).toNatClampNeg) = (nI 1) → (wp_X8_servesBy_83 Q (fun x1 x2 x3 I => wp_X8_servesBy_7 Q k81 k100 n x1 x2 x3 I) x1 x2 x3 ((x1 >>> (((nI 2) * ((x2 - (nI 1)) - x3)) &&& 31)) &&& (nI 3)) (I 316 ((nI 8) + x3).toNatClampNeg) I3)) ∧ ((I3 316 ((nI 22) + (I 316 ((nI 8) + x3).toNatClampNeg)).toNatClampNeg) = (nI 1) → (vp_in ((nI 15) + (I 316 ((nI 8) + x3).toNatClampNeg)) 1372 ∧ (wp_X8_mayPay (nI 1323) ((x1 >>> (((nI 2) * ((x2 - (nI 1)) - x3)) &&& 31)) &&& (nI 3)) (I3 316 ((nI 15) + (I 316 ((nI 8) + x3).toNatClampNeg)).toNatClampNeg) I3 (fun r10 I9 => ((¬ r10 = 0 → (wp_X8_servesBy_83 Q (fun x1 x2 x3 I => wp_X8_servesBy_7 Q k81 k100 n x1 x2 x3 I) x1 x2 x3 ((x1 >>> (((nI 2) * ((x2 - (nI 1)) - x3)) &&& 31)) &&& (nI 3)) (I 316 ((nI 8) + x3).toNatClampNeg) I9)) ∧ (r10 = 0 → (k81 I9))))))))))))))))
set_option maxHeartbeats 4000000 in
set_option maxRecDepth 100000 in
theorem w_X8_servesBy_7 {E : EE} {p : Program} {l : Launch} {e : Env} {s : State} {m : MethodId} {args : Array Value} {below : List Frame} {meth : Method} {c : Code} {Q : Int32 → II → Prop} {k81 : II → Prop} {k100 : II → Prop} (X : CX E p s m args meth c cX8_servesBy 6 (some .boolean) RX8) (K81 : ∀ (I : II) (H : Heap) (locs : List Loc) (ls : Array Slot), k81 I → PP E s H locs I → lv_has ls 6 [] → W p l e rmX8_servesBy s m args below meth c H locs 0 0 (MQ below (va_Qi Q (BU E) E.2.2.2.1) args s 0 0 E.2.2.2.1) (F0 m 81 ls [])) (K100 : ∀ (I : II) (H : Heap) (locs : List Loc) (ls : Array Slot), k100 I → PP E s H locs I → lv_has ls 6 [] → W p l e rmX8_servesBy s m args below meth c H locs 0 0 (MQ below (va_Qi Q (BU E) E.2.2.2.1) args s 0 0 E.2.2.2.1) (F0 m 100 ls [])) : ∀ (n : Nat) (x1 : Int32) (x2 : Int32) (x3 : Int32) (I : II) (H : Heap) (locs : List Loc) (ls : Array Slot), wp_X8_servesBy_7 Q k81 k100 n x1 x2 x3 I → PP E s H locs I → lv_has ls 6 [(0, .ref (E.2.1 315)), (1, .int x1), (2, .int x2), (3, .int x3)] → W p l e rmX8_servesBy s m args below meth c H locs 0 0 (MQ below (va_Qi Q (BU E) E.2.2.2.1) args s 0 0 E.2.2.2.1) (F0 m 7 ls []) := by
  obtain ⟨⟨hx, hb, hml, hown, hts⟩, hr, hlk, hK, hST, hN⟩ := id X
  intro n
  induction n with
  | zero =>
    intro x1 x2 x3 I H locs ls h hp hl
    exact False.elim h
  | succ n ih =>
    intro x1 x2 x3 I H locs ls h hp hl
    rw [wp_X8_servesBy_7.eq_2] at h
    refine lv_iload_n hx hb dX8_servesBy_7 rfl (lv_at hl 3 rfl) ?_
    refine lv_iload_n hx hb dX8_servesBy_8 rfl (lv_at hl 2 rfl) ?_
    refine lv_icmp_ge (tgt := 100) hx hb dX8_servesBy_9 (by decide) (fun c1 => ?_) (fun c1 => ?_)
    · have h := h.1 c1
      exact K100 _ _ _ _ h hp (lv_sub hl [] rfl)
    · have h := h.2 c1
      refine lv_iload_n hx hb dX8_servesBy_12 rfl (lv_at hl 1 rfl) ?_
      refine lv_iconst (v := (nI 2)) hx hb dX8_servesBy_13 (by decide) ?_
      refine lv_iload_n hx hb dX8_servesBy_14 rfl (lv_at hl 2 rfl) ?_
      refine lv_iconst (v := (nI 1)) hx hb dX8_servesBy_15 (by decide) ?_
      refine lv_isub hx hb dX8_servesBy_16 ?_
      refine lv_iload_n hx hb dX8_servesBy_17 rfl (lv_at hl 3 rfl) ?_
      refine lv_isub hx hb dX8_servesBy_18 ?_
      refine lv_imul hx hb dX8_servesBy_19 ?_
      refine lv_ishr hx hb dX8_servesBy_20 ?_
      refine lv_iconst (v := (nI 3)) hx hb dX8_servesBy_21 (by decide) ?_
      refine lv_iand hx hb dX8_servesBy_22 ?_
      refine lv_istore (lv' := [(4, .int ((x1 >>> (((nI 2) * ((x2 - (nI 1)) - x3)) &&& 31)) &&& (nI 3))), (0, .ref (E.2.1 315)), (1, .int x1), (2, .int x2), (3, .int x3)]) hx hb dX8_servesBy_23 hl (by decide) rfl (fun ls hl => ?_)
      refine lv_aload_n hx hb dX8_servesBy_25 rfl (lv_at hl 1 rfl) ?_
      refine f_X8_7 X hp dX8_servesBy_26 ?_
      refine lv_bipush (v := (nI 8)) hx hb dX8_servesBy_29 (by decide) ?_
      refine lv_iload_n hx hb dX8_servesBy_31 rfl (lv_at hl 4 rfl) ?_
      refine lv_iadd hx hb dX8_servesBy_32 ?_
      have hv2 := h.1
      have h := h.2
      refine al_i X hp ar_s316 hv2 dX8_servesBy_33 ?_
      refine lv_istore (lv' := [(5, .int (I 316 ((nI 8) + x3).toNatClampNeg)), (4, .int ((x1 >>> (((nI 2) * ((x2 - (nI 1)) - x3)) &&& 31)) &&& (nI 3))), (0, .ref (E.2.1 315)), (1, .int x1), (2, .int x2), (3, .int x3)]) hx hb dX8_servesBy_34 hl (by decide) rfl (fun ls hl => ?_)
      refine lv_aload_n hx hb dX8_servesBy_36 rfl (lv_at hl 2 rfl) ?_
      refine lv_iload hx hb dX8_servesBy_37 (lv_at hl 1 rfl) ?_
      refine ki (kV (As := [.int ((x1 >>> (((nI 2) * ((x2 - (nI 1)) - x3)) &&& 31)) &&& (nI 3))]) (rest := []) X hp (C_X8_isTeller  h) tw_ml_X8_175 vf_X8_isTeller ⟨rfl, rfl, Nat.le_of_ble_eq_true rfl, Nat.le_of_ble_eq_true rfl⟩ (pr_rcv X hp (k := 315) (by decide) (ob_315 _) (q := (RX8, TX8, 18)) rfl) rfl hl.1 rfl (Nat.le_of_ble_eq_true rfl) dX8_servesBy_39) hp (fun r4 I3 H locs h hp => ?_)
      refine lv_if_eq (tgt := 81) hx hb dX8_servesBy_42 (by decide) (fun c5 => ?_) (fun c5 => ?_)
      · have h := h.1 c5
        exact K81 _ _ _ _ h hp (lv_sub hl [] rfl)
      · have h := h.2 c5
        refine lv_aload_n hx hb dX8_servesBy_45 rfl (lv_at hl 2 rfl) ?_
        refine f_X8_7 X hp dX8_servesBy_46 ?_
        refine lv_bipush (v := (nI 22)) hx hb dX8_servesBy_49 (by decide) ?_
        refine lv_iload hx hb dX8_servesBy_51 (lv_at hl 0 rfl) ?_
        refine lv_iadd hx hb dX8_servesBy_53 ?_
        have hv6 := h.1
        have h := h.2
        refine al_i X hp ar_s316 hv6 dX8_servesBy_54 ?_
        refine lv_iconst (v := (nI 1)) hx hb dX8_servesBy_55 (by decide) ?_
        refine lv_icmp_ne (tgt := 83) hx hb dX8_servesBy_56 (by decide) (fun c7 => ?_) (fun c7 => ?_)
        · have h := h.1 c7
          exact w_X8_servesBy_83 X ih _ _ _ _ _ _ _ _ _ h hp (lv_sub hl [2, 3, 4, 5, 1, 0] rfl)
        · have h := h.2 c7
          refine lv_aload_n hx hb dX8_servesBy_59 rfl (lv_at hl 2 rfl) ?_
          refine lv_sipush (v := (nI 1323)) hx hb dX8_servesBy_60 (by decide) ?_
          refine lv_iload hx hb dX8_servesBy_63 (lv_at hl 1 rfl) ?_
          refine lv_aload_n hx hb dX8_servesBy_65 rfl (lv_at hl 2 rfl) ?_
          refine f_X8_7 X hp dX8_servesBy_66 ?_
          refine lv_bipush (v := (nI 15)) hx hb dX8_servesBy_69 (by decide) ?_
          refine lv_iload hx hb dX8_servesBy_71 (lv_at hl 0 rfl) ?_
          refine lv_iadd hx hb dX8_servesBy_73 ?_
          have hv8 := h.1
          have h := h.2
          refine al_i X hp ar_s316 hv8 dX8_servesBy_74 ?_
          refine ki (kV (As := [.int (nI 1323), .int ((x1 >>> (((nI 2) * ((x2 - (nI 1)) - x3)) &&& 31)) &&& (nI 3)), .int (I3 316 ((nI 15) + (I 316 ((nI 8) + x3).toNatClampNeg)).toNatClampNeg)]) (rest := []) X hp (C_X8_mayPay  h) tw_ml_X8_153 vf_X8_mayPay ⟨rfl, rfl, Nat.le_of_ble_eq_true rfl, Nat.le_of_ble_eq_true rfl⟩ (pr_rcv X hp (k := 315) (by decide) (ob_315 _) (q := (RX8, TX8, 18)) rfl) rfl hl.1 rfl (Nat.le_of_ble_eq_true rfl) dX8_servesBy_75) hp (fun r10 I9 H locs h hp => ?_)
          refine lv_if_ne (tgt := 83) hx hb dX8_servesBy_78 (by decide) (fun c11 => ?_) (fun c11 => ?_)
          · have h := h.1 c11
            exact w_X8_servesBy_83 X ih _ _ _ _ _ _ _ _ _ h hp (lv_sub hl [2, 3, 4, 5, 1, 0] rfl)
          · have h := h.2 c11
            exact K81 _ _ _ _ h hp (lv_sub hl [] rfl)
def wp_X8_servesBy (x1 : Int32) (x2 : Int32) (I : II) (Q : Int32 → II → Prop) : Prop := (wp_X8_layTried (nI 0) I (fun I1 => (∃ n103, wp_X8_servesBy_7 Q (fun I => (Q (nI 0) I)) (fun I => (Q (nI 1) I)) n103 x1 x2 (nI 0) I1)))
set_option maxHeartbeats 4000000 in
set_option maxRecDepth 100000 in
theorem w_X8_servesBy_0 {E : EE} {p : Program} {l : Launch} {e : Env} {s : State} {m : MethodId} {args : Array Value} {below : List Frame} {meth : Method} {c : Code} {Q : Int32 → II → Prop} (X : CX E p s m args meth c cX8_servesBy 6 (some .boolean) RX8) : ∀ (x1 : Int32) (x2 : Int32) (I : II) (H : Heap) (locs : List Loc) (ls : Array Slot), wp_X8_servesBy x1 x2 I Q → PP E s H locs I → lv_has ls 6 [(0, .ref (E.2.1 315)), (1, .int x1), (2, .int x2)] → W p l e rmX8_servesBy s m args below meth c H locs 0 0 (MQ below (va_Qi Q (BU E) E.2.2.2.1) args s 0 0 E.2.2.2.1) (F0 m 0 ls []) := by
  obtain ⟨⟨hx, hb, hml, hown, hts⟩, hr, hlk, hK, hST, hN⟩ := id X
  intro x1 x2 I H locs ls h hp hl
  unfold wp_X8_servesBy at h
  refine lv_aload_n hx hb dX8_servesBy_0 rfl (lv_at hl 0 rfl) ?_
  refine lv_iconst (v := (nI 0)) hx hb dX8_servesBy_1 (by decide) ?_
  refine kv (kV (As := [.int (nI 0)]) (rest := []) X hp (C_X8_layTried  h) tw_ml_X8_199 vf_X8_layTried ⟨rfl, rfl, Nat.le_of_ble_eq_true rfl, Nat.le_of_ble_eq_true rfl⟩ (pr_rcv X hp (k := 315) (by decide) (ob_315 _) (q := (RX8, TX8, 18)) rfl) rfl hl.1 rfl (Nat.le_of_ble_eq_true rfl) dX8_servesBy_2) hp (fun I1 H locs h hp => ?_)
  refine lv_iconst (v := (nI 0)) hx hb dX8_servesBy_5 (by decide) ?_
  refine lv_istore_n (lv' := [(3, .int (nI 0)), (0, .ref (E.2.1 315)), (1, .int x1), (2, .int x2)]) hx hb dX8_servesBy_6 rfl hl (by decide) rfl (fun ls hl => ?_)
  obtain ⟨n103, h⟩ := h
  refine w_X8_servesBy_7 X ?_ ?_ n103 _ _ _ _ _ _ _ h hp (lv_sub hl [1, 2, 3, 0] rfl)
  · intro I H locs ls h hp hl
    refine lv_iconst (v := (nI 0)) hx hb dX8_servesBy_81 (by decide) ?_
    exact rt_z X hp ⟨Or.inl rfl, h⟩ dX8_servesBy_82
  · intro I H locs ls h hp hl
    refine lv_iconst (v := (nI 1)) hx hb dX8_servesBy_100 (by decide) ?_
    exact rt_z X hp ⟨Or.inr rfl, h⟩ dX8_servesBy_101
set_option maxRecDepth 100000 in
theorem C_X8_servesBy {E : EE} {l : Launch} {x1 : Int32} {x2 : Int32} {I : II} {Q : Int32 → II → Prop} (h : wp_X8_servesBy x1 x2 I Q) : Met l yX8_servesBy (Cond.code yX8_servesBy cX8_servesBy 6 (some .boolean) :: lwT) rmX8_servesBy (va_Pc [.ref (E.2.1 315), .int x1, .int x2] (PU E I)) (va_Qi Q (BU E) E.2.2.2.1) 0 0 E.2.2.2.1 :=
  ofWalk [.ref (E.2.1 315), .int x1, .int x2] (by decide) tw_c_X8_servesBy (Nat.le_of_ble_eq_true rfl) (fun p e s m below meth c ls X hp hl => w_X8_servesBy_0 X _ _ _ _ _ _ h hp hl)

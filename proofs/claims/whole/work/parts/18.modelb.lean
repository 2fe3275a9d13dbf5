abbrev rmX8_copyTown : Room := { frames := 0, cells := 0, slots := 0, locals := 0 }
theorem vf_X8_copyTown : VF yX8_copyTown RX8 cX8_copyTown 4 none 2 := ⟨tw_in_X8, tw_im_X8_copyTown, tw_se_X8_copyTown, tw_c_X8_copyTown, by decide, by decide, by decide +kernel⟩
def wp_X8_copyTown_2 (Q : II → Prop) (k30 : II → Prop) : Nat → Int32 → Int32 → Int32 → II → Prop
  | 0, _, _, _, _ => False
  | n + 1, x1, x2, x3, I => (((nI 49) ≤ x3 → (k30 I)) ∧ (¬ (nI 49) ≤ x3 → (vp_in (x1 + x3) 1372 ∧ (vp_in (x2 + x3) 1372 ∧ ∀ I4 : II, I4 = su I 316 (x2 + x3).toNatClampNeg (I 316 (x1 + x3).toNatClampNeg) → (wp_X8_copyTown_2 Q k30 n x1 x2 (x3 + (nI 1)) I4)))))
set_option maxHeartbeats 4000000 in
set_option maxRecDepth 100000 in
theorem w_X8_copyTown_2 {E : EE} {p : Program} {l : Launch} {e : Env} {s : State} {m : MethodId} {args : Array Value} {below : List Frame} {meth : Method} {c : Code} {Q : II → Prop} {k30 : II → Prop} (X : CX E p s m args meth c cX8_copyTown 4 none RX8) (K30 : ∀ (I : II) (H : Heap) (locs : List Loc) (ls : Array Slot), k30 I → PP E s H locs I → lv_has ls 4 [] → W p l e rmX8_copyTown s m args below meth c H locs 0 0 (MQ below (va_Qv Q (BU E) E.2.2.2.1) args s 0 0 E.2.2.2.1) (F0 m 30 ls [])) : ∀ (n : Nat) (x1 : Int32) (x2 : Int32) (x3 : Int32) (I : II) (H : Heap) (locs : List Loc) (ls : Array Slot), wp_X8_copyTown_2 Q k30 n x1 x2 x3 I → PP E s H locs I → lv_has ls 4 [(0, .ref (E.2.1 315)), (1, .int x1), (2, .int x2), (3, .int x3)] → W p l e rmX8_copyTown s m args below meth c H locs 0 0 (MQ below (va_Qv Q (BU E) E.2.2.2.1) args s 0 0 E.2.2.2.1) (F0 m 2 ls []) := by
  obtain ⟨⟨hx, hb, hml, hown, hts⟩, hr, hlk, hK, hST, hN⟩ := id X
  intro n
  induction n with
  | zero =>
    intro x1 x2 x3 I H locs ls h hp hl
    exact False.elim h
  | succ n ih =>
    intro x1 x2 x3 I H locs ls h hp hl
    rw [wp_X8_copyTown_2.eq_2] at h
    refine lv_iload_n hx hb dX8_copyTown_2 rfl (lv_at hl 3 rfl) ?_
    refine lv_bipush (v := (nI 49)) hx hb dX8_copyTown_3 (by decide) ?_
    refine lv_icmp_ge (tgt := 30) hx hb dX8_copyTown_5 (by decide) (fun c1 => ?_) (fun c1 => ?_)
    · have h := h.1 c1
      exact K30 _ _ _ _ h hp (lv_sub hl [] rfl)
    · have h := h.2 c1
      refine lv_aload_n hx hb dX8_copyTown_8 rfl (lv_at hl 0 rfl) ?_
      refine f_X8_7 X hp dX8_copyTown_9 ?_
      refine lv_iload_n hx hb dX8_copyTown_12 rfl (lv_at hl 2 rfl) ?_
      refine lv_iload_n hx hb dX8_copyTown_13 rfl (lv_at hl 3 rfl) ?_
      refine lv_iadd hx hb dX8_copyTown_14 ?_
      refine lv_aload_n hx hb dX8_copyTown_15 rfl (lv_at hl 0 rfl) ?_
      refine f_X8_7 X hp dX8_copyTown_16 ?_
      refine lv_iload_n hx hb dX8_copyTown_19 rfl (lv_at hl 1 rfl) ?_
      refine lv_iload_n hx hb dX8_copyTown_20 rfl (lv_at hl 3 rfl) ?_
      refine lv_iadd hx hb dX8_copyTown_21 ?_
      have hv2 := h.1
      have h := h.2
      refine al_i X hp ar_s316 hv2 dX8_copyTown_22 ?_
      have hv3 := h.1
      have h := h.2
      refine as_i X hp ar_s316 hv3 dX8_copyTown_23 (fun H locs hp => ?_)
      obtain ⟨I4, e5⟩ : ∃ y, y = su I 316 (x2 + x3).toNatClampNeg (I 316 (x1 + x3).toNatClampNeg) := ⟨_, rfl⟩
      have hp : PP E s H locs I4 := by rw [e5]; exact hp
      have h := h I4 e5
      refine lv_iinc (v := (x3 + (nI 1))) (lv' := [(3, .int (x3 + (nI 1))), (0, .ref (E.2.1 315)), (1, .int x1), (2, .int x2)]) hx hb dX8_copyTown_24 hl (k := 3) rfl rfl (by decide) rfl (fun ls hl => ?_)
      refine lv_goto (tgt := 2) hx hb dX8_copyTown_27 (by decide) ?_
      exact ih _ _ _ _ _ _ _ h hp (lv_sub hl [1, 2, 3, 0] rfl)
def wp_X8_copyTown (x1 : Int32) (x2 : Int32) (I : II) (Q : II → Prop) : Prop := (∃ n51, wp_X8_copyTown_2 Q (fun I => (Q I)) n51 x1 x2 (nI 0) I)
set_option maxHeartbeats 4000000 in
set_option maxRecDepth 100000 in
theorem w_X8_copyTown_0 {E : EE} {p : Program} {l : Launch} {e : Env} {s : State} {m : MethodId} {args : Array Value} {below : List Frame} {meth : Method} {c : Code} {Q : II → Prop} (X : CX E p s m args meth c cX8_copyTown 4 none RX8) : ∀ (x1 : Int32) (x2 : Int32) (I : II) (H : Heap) (locs : List Loc) (ls : Array Slot), wp_X8_copyTown x1 x2 I Q → PP E s H locs I → lv_has ls 4 [(0, .ref (E.2.1 315)), (1, .int x1), (2, .int x2)] → W p l e rmX8_copyTown s m args below meth c H locs 0 0 (MQ below (va_Qv Q (BU E) E.2.2.2.1) args s 0 0 E.2.2.2.1) (F0 m 0 ls []) := by
  obtain ⟨⟨hx, hb, hml, hown, hts⟩, hr, hlk, hK, hST, hN⟩ := id X
  intro x1 x2 I H locs ls h hp hl
  unfold wp_X8_copyTown at h
  refine lv_iconst (v := (nI 0)) hx hb dX8_copyTown_0 (by decide) ?_
  refine lv_istore_n (lv' := [(3, .int (nI 0)), (0, .ref (E.2.1 315)), (1, .int x1), (2, .int x2)]) hx hb dX8_copyTown_1 rfl hl (by decide) rfl (fun ls hl => ?_)
  obtain ⟨n51, h⟩ := h
  refine w_X8_copyTown_2 X ?_ n51 _ _ _ _ _ _ _ h hp (lv_sub hl [1, 2, 3, 0] rfl)
  · intro I H locs ls h hp hl
    exact rt_v X hp h dX8_copyTown_30
set_option maxRecDepth 100000 in
theorem C_X8_copyTown {E : EE} {l : Launch} {x1 : Int32} {x2 : Int32} {I : II} {Q : II → Prop} (h : wp_X8_copyTown x1 x2 I Q) : Met l yX8_copyTown (Cond.code yX8_copyTown cX8_copyTown 4 none :: lwT) rmX8_copyTown (va_Pc [.ref (E.2.1 315), .int x1, .int x2] (PU E I)) (va_Qv Q (BU E) E.2.2.2.1) 0 0 E.2.2.2.1 :=
  ofWalk [.ref (E.2.1 315), .int x1, .int x2] (by decide) tw_c_X8_copyTown (Nat.le_of_ble_eq_true rfl) (fun p e s m below meth c ls X hp hl => w_X8_copyTown_0 X _ _ _ _ _ _ h hp hl)
abbrev rmX8_bank : Room := { frames := 5, cells := 0, slots := 0, locals := 111 }
theorem vf_X8_bank : VF yX8_bank RX8 cX8_bank 2 (some .int) 0 := ⟨tw_in_X8, tw_im_X8_bank, tw_se_X8_bank, tw_c_X8_bank, by decide, by decide, by decide +kernel⟩
def wp_X8_bank (I : II) (Q : Int32 → II → Prop) : Prop := (wp_X8_reads I (fun r2 I1 => (∀ I3 : II, I3 = su I1 315 8 (nI 0) → ((¬ r2 = 0 → (vp_in (nI 1323) 1372 ∧ (vp_in (nI 1329) 1372 ∧ ∀ I8 : II, I8 = su I3 316 (nI 1329).toNatClampNeg (((nI 1) <<< ((I3 316 (nI 1323).toNatClampNeg) &&& 31)) - (nI 1)) → (wp_X8_copyTown (nI 1323) (nI 0) I8 (fun I10 => (∀ I12 : II, I12 = su I10 315 1 (nI 1) → (∀ I14 : II, I14 = su I12 315 2 (nI 0) → (vp_in (nI 0) 1372 ∧ (Q (I14 316 (nI 0).toNatClampNeg) I14))))))))) ∧ (r2 = 0 → (∀ I17 : II, I17 = su I3 315 9 (I3 315 14) → (Q ((-nI 1000100) - (I17 315 13)) I17)))))))
set_option maxHeartbeats 4000000 in
set_option maxRecDepth 100000 in
theorem w_X8_bank_0 {E : EE} {p : Program} {l : Launch} {e : Env} {s : State} {m : MethodId} {args : Array Value} {below : List Frame} {meth : Method} {c : Code} {Q : Int32 → II → Prop} (X : CX E p s m args meth c cX8_bank 2 (some .int) RX8) : ∀ (I : II) (H : Heap) (locs : List Loc) (ls : Array Slot), wp_X8_bank I Q → PP E s H locs I → lv_has ls 2 [(0, .ref (E.2.1 315))] → W p l e rmX8_bank s m args below meth c H locs 0 0 (MQ below (va_Qi Q (BU E) E.2.2.2.1) args s 0 0 E.2.2.2.1) (F0 m 0 ls []) := by
  obtain ⟨⟨hx, hb, hml, hown, hts⟩, hr, hlk, hK, hST, hN⟩ := id X
  intro I H locs ls h hp hl
  unfold wp_X8_bank at h
  refine lv_aload_n hx hb dX8_bank_0 rfl (lv_at hl 0 rfl) ?_
  refine ki (kV (As := []) (rest := []) X hp (C_X8_reads  h) tw_ml_X8_126 vf_X8_reads ⟨rfl, rfl, Nat.le_of_ble_eq_true rfl, Nat.le_of_ble_eq_true rfl⟩ (pr_rcv X hp (k := 315) (by decide) (ob_315 _) (q := (RX8, TX8, 18)) rfl) rfl hl.1 rfl (Nat.le_of_ble_eq_true rfl) dX8_bank_1) hp (fun r2 I1 H locs h hp => ?_)
  refine lv_istore_n (lv' := [(1, .int r2), (0, .ref (E.2.1 315))]) hx hb dX8_bank_4 rfl hl (by decide) rfl (fun ls hl => ?_)
  refine lv_aload_n hx hb dX8_bank_5 rfl (lv_at hl 1 rfl) ?_
  refine lv_iconst (v := (nI 0)) hx hb dX8_bank_6 (by decide) ?_
  refine g_X8_73 X hp dX8_bank_7 (fun H locs hp => ?_)
  obtain ⟨I3, e4⟩ : ∃ y, y = su I1 315 8 (nI 0) := ⟨_, rfl⟩
  have hp : PP E s H locs I3 := by rw [e4]; exact hp
  have h := h I3 e4
  refine lv_iload_n hx hb dX8_bank_10 rfl (lv_at hl 0 rfl) ?_
  refine lv_if_ne (tgt := 30) hx hb dX8_bank_11 (by decide) (fun c5 => ?_) (fun c5 => ?_)
  · have h := h.1 c5
    refine lv_aload_n hx hb dX8_bank_30 rfl (lv_at hl 1 rfl) ?_
    refine f_X8_7 X hp dX8_bank_31 ?_
    refine lv_sipush (v := (nI 1329)) hx hb dX8_bank_34 (by decide) ?_
    refine lv_iconst (v := (nI 1)) hx hb dX8_bank_37 (by decide) ?_
    refine lv_aload_n hx hb dX8_bank_38 rfl (lv_at hl 1 rfl) ?_
    refine f_X8_7 X hp dX8_bank_39 ?_
    refine lv_sipush (v := (nI 1323)) hx hb dX8_bank_42 (by decide) ?_
    have hv6 := h.1
    have h := h.2
    refine al_i X hp ar_s316 hv6 dX8_bank_45 ?_
    refine lv_ishl hx hb dX8_bank_46 ?_
    refine lv_iconst (v := (nI 1)) hx hb dX8_bank_47 (by decide) ?_
    refine lv_isub hx hb dX8_bank_48 ?_
    have hv7 := h.1
    have h := h.2
    refine as_i X hp ar_s316 hv7 dX8_bank_49 (fun H locs hp => ?_)
    obtain ⟨I8, e9⟩ : ∃ y, y = su I3 316 (nI 1329).toNatClampNeg (((nI 1) <<< ((I3 316 (nI 1323).toNatClampNeg) &&& 31)) - (nI 1)) := ⟨_, rfl⟩
    have hp : PP E s H locs I8 := by rw [e9]; exact hp
    have h := h I8 e9
    refine lv_aload_n hx hb dX8_bank_50 rfl (lv_at hl 1 rfl) ?_
    refine lv_sipush (v := (nI 1323)) hx hb dX8_bank_51 (by decide) ?_
    refine lv_iconst (v := (nI 0)) hx hb dX8_bank_54 (by decide) ?_
    refine kv (kV (As := [.int (nI 1323), .int (nI 0)]) (rest := []) X hp (C_X8_copyTown  h) tw_ml_X8_133 vf_X8_copyTown ⟨rfl, rfl, Nat.le_of_ble_eq_true rfl, Nat.le_of_ble_eq_true rfl⟩ (pr_rcv X hp (k := 315) (by decide) (ob_315 _) (q := (RX8, TX8, 18)) rfl) rfl hl.1 rfl (Nat.le_of_ble_eq_true rfl) dX8_bank_55) hp (fun I10 H locs h hp => ?_)
    refine lv_aload_n hx hb dX8_bank_58 rfl (lv_at hl 1 rfl) ?_
    refine lv_iconst (v := (nI 1)) hx hb dX8_bank_59 (by decide) ?_
    refine g_X8_137 X hp (Or.inr rfl) dX8_bank_60 (fun H locs hp => ?_)
    obtain ⟨I12, e13⟩ : ∃ y, y = su I10 315 1 (nI 1) := ⟨_, rfl⟩
    have hp : PP E s H locs I12 := by rw [e13]; exact hp
    have h := h I12 e13
    refine lv_aload_n hx hb dX8_bank_63 rfl (lv_at hl 1 rfl) ?_
    refine lv_iconst (v := (nI 0)) hx hb dX8_bank_64 (by decide) ?_
    refine g_X8_141 X hp dX8_bank_65 (fun H locs hp => ?_)
    obtain ⟨I14, e15⟩ : ∃ y, y = su I12 315 2 (nI 0) := ⟨_, rfl⟩
    have hp : PP E s H locs I14 := by rw [e15]; exact hp
    have h := h I14 e15
    refine lv_aload_n hx hb dX8_bank_68 rfl (lv_at hl 1 rfl) ?_
    refine f_X8_7 X hp dX8_bank_69 ?_
    refine lv_iconst (v := (nI 0)) hx hb dX8_bank_72 (by decide) ?_
    have hv16 := h.1
    have h := h.2
    refine al_i X hp ar_s316 hv16 dX8_bank_73 ?_
    exact rt_i X hp h dX8_bank_74
  · have h := h.2 c5
    refine lv_aload_n hx hb dX8_bank_14 rfl (lv_at hl 1 rfl) ?_
    refine lv_aload_n hx hb dX8_bank_15 rfl (lv_at hl 1 rfl) ?_
    refine f_X8_84 X hp dX8_bank_16 ?_
    refine g_X8_129 X hp dX8_bank_19 (fun H locs hp => ?_)
    obtain ⟨I17, e18⟩ : ∃ y, y = su I3 315 9 (I3 315 14) := ⟨_, rfl⟩
    have hp : PP E s H locs I17 := by rw [e18]; exact hp
    have h := h I17 e18
    refine lv_ldc (v := (-nI 1000100)) hx hb hown (hts _ tw_k_X8_132) dX8_bank_22 ?_
    refine lv_aload_n hx hb dX8_bank_24 rfl (lv_at hl 1 rfl) ?_
    refine f_X8_77 X hp dX8_bank_25 ?_
    refine lv_isub hx hb dX8_bank_28 ?_
    exact rt_i X hp h dX8_bank_29
set_option maxRecDepth 100000 in
theorem C_X8_bank {E : EE} {l : Launch} {I : II} {Q : Int32 → II → Prop} (h : wp_X8_bank I Q) : Met l yX8_bank (Cond.code yX8_bank cX8_bank 2 (some .int) :: lwT) rmX8_bank (va_Pc [.ref (E.2.1 315)] (PU E I)) (va_Qi Q (BU E) E.2.2.2.1) 0 0 E.2.2.2.1 :=
  ofWalk [.ref (E.2.1 315)] (by decide) tw_c_X8_bank (Nat.le_of_ble_eq_true rfl) (fun p e s m below meth c ls X hp hl => w_X8_bank_0 X _ _ _ _ h hp hl)
abbrev rmX8_fault : Room := { frames := 0, cells := 0, slots := 0, locals := 0 }
theorem vf_X8_fault : VF yX8_fault RX8 cX8_fault 1 (some .int) 0 := ⟨tw_in_X8, tw_im_X8_fault, tw_se_X8_fault, tw_c_X8_fault, by decide, by decide, by decide +kernel⟩
def wp_X8_fault (I : II) (Q : Int32 → II → Prop) : Prop := (Q (I 315 9) I)
set_option maxHeartbeats 4000000 in
set_option maxRecDepth 100000 in
theorem w_X8_fault_0 {E : EE} {p : Program} {l : Launch} {e : Env} {s : State} {m : MethodId} {args : Array Value} {below : List Frame} {meth : Method} {c : Code} {Q : Int32 → II → Prop} (X : CX E p s m args meth c cX8_fault 1 (some .int) RX8) : ∀ (I : II) (H : Heap) (locs : List Loc) (ls : Array Slot), wp_X8_fault I Q → PP E s H locs I → lv_has ls 1 [(0, .ref (E.2.1 315))] → W p l e rmX8_fault s m args below meth c H locs 0 0 (MQ below (va_Qi Q (BU E) E.2.2.2.1) args s 0 0 E.2.2.2.1) (F0 m 0 ls []) := by
  obtain ⟨⟨hx, hb, hml, hown, hts⟩, hr, hlk, hK, hST, hN⟩ := id X
  intro I H locs ls h hp hl
  unfold wp_X8_fault at h
  refine lv_aload_n hx hb dX8_fault_0 rfl (lv_at hl 0 rfl) ?_
  refine f_X8_129 X hp dX8_fault_1 ?_
  exact rt_i X hp h dX8_fault_4
set_option maxRecDepth 100000 in
theorem C_X8_fault {E : EE} {l : Launch} {I : II} {Q : Int32 → II → Prop} (h : wp_X8_fault I Q) : Met l yX8_fault (Cond.code yX8_fault cX8_fault 1 (some .int) :: lwT) rmX8_fault (va_Pc [.ref (E.2.1 315)] (PU E I)) (va_Qi Q (BU E) E.2.2.2.1) 0 0 E.2.2.2.1 :=
  ofWalk [.ref (E.2.1 315)] (by decide) tw_c_X8_fault (Nat.le_of_ble_eq_true rfl) (fun p e s m below meth c ls X hp hl => w_X8_fault_0 X _ _ _ _ h hp hl)
abbrev rmX8_keepPast : Room := { frames := 1, cells := 0, slots := 0, locals := 23 }
theorem vf_X8_keepPast : VF yX8_keepPast RX8 cX8_keepPast 2 none 0 := ⟨tw_in_X8, tw_im_X8_keepPast, tw_se_X8_keepPast, tw_c_X8_keepPast, by decide, by decide, by decide +kernel⟩
def wp_X8_keepPast_2 (Q : II → Prop) (k42 : II → Prop) : Nat → Int32 → II → Prop
  | 0, _, _ => False
  | n + 1, x1, I => (((nI 1127) ≤ x1 → (k42 I)) ∧ (¬ (nI 1127) ≤ x1 → ((¬ (I 315 2) = (nI 24) → (k42 I)) ∧ ((I 315 2) = (nI 24) → (vp_in ((nI 98) + x1) 1372 ∧ (vp_in ((nI 49) + x1) 1372 ∧ ∀ I5 : II, I5 = su I 316 ((nI 49) + x1).toNatClampNeg (I 316 ((nI 98) + x1).toNatClampNeg) → (wp_X8_keepPast_2 Q k42 n (x1 + (nI 1)) I5)))))))
set_option maxHeartbeats 4000000 in
set_option maxRecDepth 100000 in
theorem w_X8_keepPast_2 {E : EE} {p : Program} {l : Launch} {e : Env} {s : State} {m : MethodId} {args : Array Value} {below : List Frame} {meth : Method} {c : Code} {Q : II → Prop} {k42 : II → Prop} (X : CX E p s m args meth c cX8_keepPast 2 none RX8) (K42 : ∀ (I : II) (H : Heap) (locs : List Loc) (ls : Array Slot), k42 I → PP E s H locs I → lv_has ls 2 [(0, .ref (E.2.1 315))] → W p l e rmX8_keepPast s m args below meth c H locs 0 0 (MQ below (va_Qv Q (BU E) E.2.2.2.1) args s 0 0 E.2.2.2.1) (F0 m 42 ls [])) : ∀ (n : Nat) (x1 : Int32) (I : II) (H : Heap) (locs : List Loc) (ls : Array Slot), wp_X8_keepPast_2 Q k42 n x1 I → PP E s H locs I → lv_has ls 2 [(0, .ref (E.2.1 315)), (1, .int x1)] → W p l e rmX8_keepPast s m args below meth c H locs 0 0 (MQ below (va_Qv Q (BU E) E.2.2.2.1) args s 0 0 E.2.2.2.1) (F0 m 2 ls []) := by
  obtain ⟨⟨hx, hb, hml, hown, hts⟩, hr, hlk, hK, hST, hN⟩ := id X
  intro n
  induction n with
  | zero =>
    intro x1 I H locs ls h hp hl
    exact False.elim h
  | succ n ih =>
    intro x1 I H locs ls h hp hl
    rw [wp_X8_keepPast_2.eq_2] at h
    refine lv_iload_n hx hb dX8_keepPast_2 rfl (lv_at hl 1 rfl) ?_
    refine lv_sipush (v := (nI 1127)) hx hb dX8_keepPast_3 (by decide) ?_
    refine lv_icmp_ge (tgt := 42) hx hb dX8_keepPast_6 (by decide) (fun c1 => ?_) (fun c1 => ?_)
    · have h := h.1 c1
      exact K42 _ _ _ _ h hp (lv_sub hl [0] rfl)
    · have h := h.2 c1
      refine lv_aload_n hx hb dX8_keepPast_9 rfl (lv_at hl 0 rfl) ?_
      refine f_X8_141 X hp dX8_keepPast_10 ?_
      refine lv_bipush (v := (nI 24)) hx hb dX8_keepPast_13 (by decide) ?_
      refine lv_icmp_ne (tgt := 42) hx hb dX8_keepPast_15 (by decide) (fun c2 => ?_) (fun c2 => ?_)
      · have h := h.1 c2
        exact K42 _ _ _ _ h hp (lv_sub hl [0] rfl)
      · have h := h.2 c2
        refine lv_aload_n hx hb dX8_keepPast_18 rfl (lv_at hl 0 rfl) ?_
        refine f_X8_7 X hp dX8_keepPast_19 ?_
        refine lv_bipush (v := (nI 49)) hx hb dX8_keepPast_22 (by decide) ?_
        refine lv_iload_n hx hb dX8_keepPast_24 rfl (lv_at hl 1 rfl) ?_
        refine lv_iadd hx hb dX8_keepPast_25 ?_
        refine lv_aload_n hx hb dX8_keepPast_26 rfl (lv_at hl 0 rfl) ?_
        refine f_X8_7 X hp dX8_keepPast_27 ?_
        refine lv_bipush (v := (nI 98)) hx hb dX8_keepPast_30 (by decide) ?_
        refine lv_iload_n hx hb dX8_keepPast_32 rfl (lv_at hl 1 rfl) ?_
        refine lv_iadd hx hb dX8_keepPast_33 ?_
        have hv3 := h.1
        have h := h.2
        refine al_i X hp ar_s316 hv3 dX8_keepPast_34 ?_
        have hv4 := h.1
        have h := h.2
        refine as_i X hp ar_s316 hv4 dX8_keepPast_35 (fun H locs hp => ?_)
        obtain ⟨I5, e6⟩ : ∃ y, y = su I 316 ((nI 49) + x1).toNatClampNeg (I 316 ((nI 98) + x1).toNatClampNeg) := ⟨_, rfl⟩
        have hp : PP E s H locs I5 := by rw [e6]; exact hp
        have h := h I5 e6
        refine lv_iinc (v := (x1 + (nI 1))) (lv' := [(1, .int (x1 + (nI 1))), (0, .ref (E.2.1 315))]) hx hb dX8_keepPast_36 hl (k := 1) rfl rfl (by decide) rfl (fun ls hl => ?_)
        refine lv_goto (tgt := 2) hx hb dX8_keepPast_39 (by decide) ?_
        exact ih _ _ _ _ _ h hp (lv_sub hl [1, 0] rfl)
def wp_X8_keepPast_61 (Q : II → Prop) (v0 : Int32) (v1 : Int32) (I : II) : Prop := (∀ I1 : II, I1 = su I 315 2 (v1 - v0) → (wp_X8_copyTown (nI 0) ((nI 49) + ((nI 49) * (I1 315 2))) I1 (fun I3 => (∀ I5 : II, I5 = su I3 315 2 ((I3 315 2) + (nI 1)) → (Q I5)))))
set_option maxHeartbeats 4000000 in
set_option maxRecDepth 100000 in
theorem w_X8_keepPast_61 {E : EE} {p : Program} {l : Launch} {e : Env} {s : State} {m : MethodId} {args : Array Value} {below : List Frame} {meth : Method} {c : Code} {Q : II → Prop} (X : CX E p s m args meth c cX8_keepPast 2 none RX8) : ∀ (v0 : Int32) (v1 : Int32) (I : II) (H : Heap) (locs : List Loc) (ls : Array Slot), wp_X8_keepPast_61 Q v0 v1 I → PP E s H locs I → lv_has ls 2 [(0, .ref (E.2.1 315))] → W p l e rmX8_keepPast s m args below meth c H locs 0 0 (MQ below (va_Qv Q (BU E) E.2.2.2.1) args s 0 0 E.2.2.2.1) (F0 m 61 ls [.int v0, .int v1, .ref (E.2.1 315)]) := by
  obtain ⟨⟨hx, hb, hml, hown, hts⟩, hr, hlk, hK, hST, hN⟩ := id X
  intro v0 v1 I H locs ls h hp hl
  unfold wp_X8_keepPast_61 at h
  refine lv_isub hx hb dX8_keepPast_61 ?_
  refine g_X8_141 X hp dX8_keepPast_62 (fun H locs hp => ?_)
  obtain ⟨I1, e2⟩ : ∃ y, y = su I 315 2 (v1 - v0) := ⟨_, rfl⟩
  have hp : PP E s H locs I1 := by rw [e2]; exact hp
  have h := h I1 e2
  refine lv_aload_n hx hb dX8_keepPast_65 rfl (lv_at hl 0 rfl) ?_
  refine lv_iconst (v := (nI 0)) hx hb dX8_keepPast_66 (by decide) ?_
  refine lv_bipush (v := (nI 49)) hx hb dX8_keepPast_67 (by decide) ?_
  refine lv_bipush (v := (nI 49)) hx hb dX8_keepPast_69 (by decide) ?_
  refine lv_aload_n hx hb dX8_keepPast_71 rfl (lv_at hl 0 rfl) ?_
  refine f_X8_141 X hp dX8_keepPast_72 ?_
  refine lv_imul hx hb dX8_keepPast_75 ?_
  refine lv_iadd hx hb dX8_keepPast_76 ?_
  refine kv (kV (As := [.int (nI 0), .int ((nI 49) + ((nI 49) * (I1 315 2)))]) (rest := []) X hp (C_X8_copyTown  h) tw_ml_X8_133 vf_X8_copyTown ⟨rfl, rfl, Nat.le_of_ble_eq_true rfl, Nat.le_of_ble_eq_true rfl⟩ (pr_rcv X hp (k := 315) (by decide) (ob_315 _) (q := (RX8, TX8, 18)) rfl) rfl hl.1 rfl (Nat.le_of_ble_eq_true rfl) dX8_keepPast_77) hp (fun I3 H locs h hp => ?_)
  refine lv_aload_n hx hb dX8_keepPast_80 rfl (lv_at hl 0 rfl) ?_
  refine lv_dup hx hb dX8_keepPast_81 rfl ?_
  refine f_X8_141 X hp dX8_keepPast_82 ?_
  refine lv_iconst (v := (nI 1)) hx hb dX8_keepPast_85 (by decide) ?_
  refine lv_iadd hx hb dX8_keepPast_86 ?_
  refine g_X8_141 X hp dX8_keepPast_87 (fun H locs hp => ?_)
  obtain ⟨I5, e6⟩ : ∃ y, y = su I3 315 2 ((I3 315 2) + (nI 1)) := ⟨_, rfl⟩
  have hp : PP E s H locs I5 := by rw [e6]; exact hp
  have h := h I5 e6
  exact rt_v X hp h dX8_keepPast_90
def wp_X8_keepPast_42 (Q : II → Prop) (I : II) : Prop := ((¬ (I 315 2) = (nI 24) → (wp_X8_keepPast_61 Q (nI 0) (I 315 2) I)) ∧ ((I 315 2) = (nI 24) → (wp_X8_keepPast_61 Q (nI 1) (I 315 2) I)))
set_option maxHeartbeats 4000000 in
set_option maxRecDepth 100000 in
theorem w_X8_keepPast_42 {E : EE} {p : Program} {l : Launch} {e : Env} {s : State} {m : MethodId} {args : Array Value} {below : List Frame} {meth : Method} {c : Code} {Q : II → Prop} (X : CX E p s m args meth c cX8_keepPast 2 none RX8) : ∀ (I : II) (H : Heap) (locs : List Loc) (ls : Array Slot), wp_X8_keepPast_42 Q I → PP E s H locs I → lv_has ls 2 [(0, .ref (E.2.1 315))] → W p l e rmX8_keepPast s m args below meth c H locs 0 0 (MQ below (va_Qv Q (BU E) E.2.2.2.1) args s 0 0 E.2.2.2.1) (F0 m 42 ls []) := by
  obtain ⟨⟨hx, hb, hml, hown, hts⟩, hr, hlk, hK, hST, hN⟩ := id X
  intro I H locs ls h hp hl
  unfold wp_X8_keepPast_42 at h
  refine lv_aload_n hx hb dX8_keepPast_42 rfl (lv_at hl 0 rfl) ?_
  refine lv_dup hx hb dX8_keepPast_43 rfl ?_
  refine f_X8_141 X hp dX8_keepPast_44 ?_
  refine lv_aload_n hx hb dX8_keepPast_47 rfl (lv_at hl 0 rfl) ?_
  refine f_X8_141 X hp dX8_keepPast_48 ?_
  refine lv_bipush (v := (nI 24)) hx hb dX8_keepPast_51 (by decide) ?_
  refine lv_icmp_ne (tgt := 60) hx hb dX8_keepPast_53 (by decide) (fun c1 => ?_) (fun c1 => ?_)
  · have h := h.1 c1
    refine lv_iconst (v := (nI 0)) hx hb dX8_keepPast_60 (by decide) ?_
    exact w_X8_keepPast_61 X  _ _ _ _ _ _ h hp (lv_sub hl [0] rfl)
  · have h := h.2 c1
    refine lv_iconst (v := (nI 1)) hx hb dX8_keepPast_56 (by decide) ?_
    refine lv_goto (tgt := 61) hx hb dX8_keepPast_57 (by decide) ?_
    exact w_X8_keepPast_61 X  _ _ _ _ _ _ h hp (lv_sub hl [0] rfl)
def wp_X8_keepPast (I : II) (Q : II → Prop) : Prop := (∃ n51, wp_X8_keepPast_2 Q (fun I => (wp_X8_keepPast_42 Q I)) n51 (nI 0) I)
set_option maxHeartbeats 4000000 in
set_option maxRecDepth 100000 in
theorem w_X8_keepPast_0 {E : EE} {p : Program} {l : Launch} {e : Env} {s : State} {m : MethodId} {args : Array Value} {below : List Frame} {meth : Method} {c : Code} {Q : II → Prop} (X : CX E p s m args meth c cX8_keepPast 2 none RX8) : ∀ (I : II) (H : Heap) (locs : List Loc) (ls : Array Slot), wp_X8_keepPast I Q → PP E s H locs I → lv_has ls 2 [(0, .ref (E.2.1 315))] → W p l e rmX8_keepPast s m args below meth c H locs 0 0 (MQ below (va_Qv Q (BU E) E.2.2.2.1) args s 0 0 E.2.2.2.1) (F0 m 0 ls []) := by
  obtain ⟨⟨hx, hb, hml, hown, hts⟩, hr, hlk, hK, hST, hN⟩ := id X
  intro I H locs ls h hp hl
  unfold wp_X8_keepPast at h
  refine lv_iconst (v := (nI 0)) hx hb dX8_keepPast_0 (by decide) ?_
  refine lv_istore_n (lv' := [(1, .int (nI 0)), (0, .ref (E.2.1 315))]) hx hb dX8_keepPast_1 rfl hl (by decide) rfl (fun ls hl => ?_)
  obtain ⟨n51, h⟩ := h
  refine w_X8_keepPast_2 X ?_ n51 _ _ _ _ _ h hp (lv_sub hl [1, 0] rfl)
  · intro I H locs ls h hp hl
    exact w_X8_keepPast_42 X  _ _ _ _ h hp (lv_sub hl [0] rfl)
set_option maxRecDepth 100000 in
theorem C_X8_keepPast {E : EE} {l : Launch} {I : II} {Q : II → Prop} (h : wp_X8_keepPast I Q) : Met l yX8_keepPast (Cond.code yX8_keepPast cX8_keepPast 2 none :: lwT) rmX8_keepPast (va_Pc [.ref (E.2.1 315)] (PU E I)) (va_Qv Q (BU E) E.2.2.2.1) 0 0 E.2.2.2.1 :=
  ofWalk [.ref (E.2.1 315)] (by decide) tw_c_X8_keepPast (Nat.le_of_ble_eq_true rfl) (fun p e s m below meth c ls X hp hl => w_X8_keepPast_0 X _ _ _ _ h hp hl)
abbrev rmX8_undo : Room := { frames := 1, cells := 0, slots := 0, locals := 23 }
theorem vf_X8_undo : VF yX8_undo RX8 cX8_undo 1 (some .int) 0 := ⟨tw_in_X8, tw_im_X8_undo, tw_se_X8_undo, tw_c_X8_undo, by decide, by decide, by decide +kernel⟩
def wp_X8_undo (I : II) (Q : Int32 → II → Prop) : Prop := ((¬ (I 315 2) = 0 → (∀ I2 : II, I2 = su I 315 2 ((I 315 2) - (nI 1)) → (wp_X8_copyTown ((nI 49) + ((nI 49) * (I2 315 2))) (nI 0) I2 (fun I4 => (Q (I4 315 2) I4))))) ∧ ((I 315 2) = 0 → (Q (-nI 1000002) I)))
set_option maxHeartbeats 4000000 in
set_option maxRecDepth 100000 in
theorem w_X8_undo_0 {E : EE} {p : Program} {l : Launch} {e : Env} {s : State} {m : MethodId} {args : Array Value} {below : List Frame} {meth : Method} {c : Code} {Q : Int32 → II → Prop} (X : CX E p s m args meth c cX8_undo 1 (some .int) RX8) : ∀ (I : II) (H : Heap) (locs : List Loc) (ls : Array Slot), wp_X8_undo I Q → PP E s H locs I → lv_has ls 1 [(0, .ref (E.2.1 315))] → W p l e rmX8_undo s m args below meth c H locs 0 0 (MQ below (va_Qi Q (BU E) E.2.2.2.1) args s 0 0 E.2.2.2.1) (F0 m 0 ls []) := by
  obtain ⟨⟨hx, hb, hml, hown, hts⟩, hr, hlk, hK, hST, hN⟩ := id X
  intro I H locs ls h hp hl
  unfold wp_X8_undo at h
  refine lv_aload_n hx hb dX8_undo_0 rfl (lv_at hl 0 rfl) ?_
  refine f_X8_141 X hp dX8_undo_1 ?_
  refine lv_if_ne (tgt := 10) hx hb dX8_undo_4 (by decide) (fun c1 => ?_) (fun c1 => ?_)
  · have h := h.1 c1
    refine lv_aload_n hx hb dX8_undo_10 rfl (lv_at hl 0 rfl) ?_
    refine lv_dup hx hb dX8_undo_11 rfl ?_
    refine f_X8_141 X hp dX8_undo_12 ?_
    refine lv_iconst (v := (nI 1)) hx hb dX8_undo_15 (by decide) ?_
    refine lv_isub hx hb dX8_undo_16 ?_
    refine g_X8_141 X hp dX8_undo_17 (fun H locs hp => ?_)
    obtain ⟨I2, e3⟩ : ∃ y, y = su I 315 2 ((I 315 2) - (nI 1)) := ⟨_, rfl⟩
    have hp : PP E s H locs I2 := by rw [e3]; exact hp
    have h := h I2 e3
    refine lv_aload_n hx hb dX8_undo_20 rfl (lv_at hl 0 rfl) ?_
    refine lv_bipush (v := (nI 49)) hx hb dX8_undo_21 (by decide) ?_
    refine lv_bipush (v := (nI 49)) hx hb dX8_undo_23 (by decide) ?_
    refine lv_aload_n hx hb dX8_undo_25 rfl (lv_at hl 0 rfl) ?_
    refine f_X8_141 X hp dX8_undo_26 ?_
    refine lv_imul hx hb dX8_undo_29 ?_
    refine lv_iadd hx hb dX8_undo_30 ?_
    refine lv_iconst (v := (nI 0)) hx hb dX8_undo_31 (by decide) ?_
    refine kv (kV (As := [.int ((nI 49) + ((nI 49) * (I2 315 2))), .int (nI 0)]) (rest := []) X hp (C_X8_copyTown  h) tw_ml_X8_133 vf_X8_copyTown ⟨rfl, rfl, Nat.le_of_ble_eq_true rfl, Nat.le_of_ble_eq_true rfl⟩ (pr_rcv X hp (k := 315) (by decide) (ob_315 _) (q := (RX8, TX8, 18)) rfl) rfl hl.1 rfl (Nat.le_of_ble_eq_true rfl) dX8_undo_32) hp (fun I4 H locs h hp => ?_)
    refine lv_aload_n hx hb dX8_undo_35 rfl (lv_at hl 0 rfl) ?_
    refine f_X8_141 X hp dX8_undo_36 ?_
    exact rt_i X hp h dX8_undo_39
  · have h := h.2 c1
    refine lv_ldc (v := (-nI 1000002)) hx hb hown (hts _ tw_k_X8_144) dX8_undo_7 ?_
    exact rt_i X hp h dX8_undo_9
set_option maxRecDepth 100000 in
theorem C_X8_undo {E : EE} {l : Launch} {I : II} {Q : Int32 → II → Prop} (h : wp_X8_undo I Q) : Met l yX8_undo (Cond.code yX8_undo cX8_undo 1 (some .int) :: lwT) rmX8_undo (va_Pc [.ref (E.2.1 315)] (PU E I)) (va_Qi Q (BU E) E.2.2.2.1) 0 0 E.2.2.2.1 :=
  ofWalk [.ref (E.2.1 315)] (by decide) tw_c_X8_undo (Nat.le_of_ble_eq_true rfl) (fun p e s m below meth c ls X hp hl => w_X8_undo_0 X _ _ _ _ h hp hl)
abbrev rmX8_isTeller : Room := { frames := 1, cells := 0, slots := 0, locals := 25 }
theorem vf_X8_isTeller : VF yX8_isTeller RX8 cX8_isTeller 2 (some .boolean) 1 := ⟨tw_in_X8, tw_im_X8_isTeller, tw_se_X8_isTeller, tw_c_X8_isTeller, by decide, by decide, by decide +kernel⟩
def wp_X8_isTeller (x1 : Int32) (I : II) (Q : Int32 → II → Prop) : Prop := (vp_in (nI 0) 1372 ∧ (wp_X8_in x1.toInt64 (lN 0) ((I 316 (nI 0).toNatClampNeg) - (nI 1)).toInt64 I (fun r3 I2 => (isb r3 ∧ Q r3 I2))))
set_option maxHeartbeats 4000000 in
set_option maxRecDepth 100000 in
theorem w_X8_isTeller_0 {E : EE} {p : Program} {l : Launch} {e : Env} {s : State} {m : MethodId} {args : Array Value} {below : List Frame} {meth : Method} {c : Code} {Q : Int32 → II → Prop} (X : CX E p s m args meth c cX8_isTeller 2 (some .boolean) RX8) : ∀ (x1 : Int32) (I : II) (H : Heap) (locs : List Loc) (ls : Array Slot), wp_X8_isTeller x1 I Q → PP E s H locs I → lv_has ls 2 [(0, .ref (E.2.1 315)), (1, .int x1)] → W p l e rmX8_isTeller s m args below meth c H locs 0 0 (MQ below (va_Qi Q (BU E) E.2.2.2.1) args s 0 0 E.2.2.2.1) (F0 m 0 ls []) := by
  obtain ⟨⟨hx, hb, hml, hown, hts⟩, hr, hlk, hK, hST, hN⟩ := id X
  intro x1 I H locs ls h hp hl
  unfold wp_X8_isTeller at h
  refine lv_iload_n hx hb dX8_isTeller_0 rfl (lv_at hl 1 rfl) ?_
  refine lv_i2l (v := x1.toInt64) hx hb dX8_isTeller_1 rfl ?_
  refine lv_lconst (v := (lN 0)) hx hb dX8_isTeller_2 (by decide) ?_
  refine lv_aload_n hx hb dX8_isTeller_3 rfl (lv_at hl 0 rfl) ?_
  refine f_X8_7 X hp dX8_isTeller_4 ?_
  refine lv_iconst (v := (nI 0)) hx hb dX8_isTeller_7 (by decide) ?_
  have hv1 := h.1
  have h := h.2
  refine al_i X hp ar_s316 hv1 dX8_isTeller_8 ?_
  refine lv_iconst (v := (nI 1)) hx hb dX8_isTeller_9 (by decide) ?_
  refine lv_isub hx hb dX8_isTeller_10 ?_
  refine lv_i2l (v := ((I 316 (nI 0).toNatClampNeg) - (nI 1)).toInt64) hx hb dX8_isTeller_11 rfl ?_
  refine ki (kS (As := [.long x1.toInt64, .long (lN 0), .long ((I 316 (nI 0).toNatClampNeg) - (nI 1)).toInt64]) (rest := []) X hp (C_X8_in  h) tw_ml_X8_45 sf_X8_in ⟨rfl, rfl, Nat.le_of_ble_eq_true rfl, Nat.le_of_ble_eq_true rfl⟩ rfl hl.1 rfl (Nat.le_of_ble_eq_true rfl) dX8_isTeller_12) hp (fun r3 I2 H locs h hp => ?_)
  exact rt_z X hp h dX8_isTeller_15
set_option maxRecDepth 100000 in
theorem C_X8_isTeller {E : EE} {l : Launch} {x1 : Int32} {I : II} {Q : Int32 → II → Prop} (h : wp_X8_isTeller x1 I Q) : Met l yX8_isTeller (Cond.code yX8_isTeller cX8_isTeller 2 (some .boolean) :: lwT) rmX8_isTeller (va_Pc [.ref (E.2.1 315), .int x1] (PU E I)) (va_Qi Q (BU E) E.2.2.2.1) 0 0 E.2.2.2.1 :=
  ofWalk [.ref (E.2.1 315), .int x1] (by decide) tw_c_X8_isTeller (Nat.le_of_ble_eq_true rfl) (fun p e s m below meth c ls X hp hl => w_X8_isTeller_0 X _ _ _ _ _ h hp hl)
abbrev rmX8_costOf : Room := { frames := 0, cells := 0, slots := 0, locals := 0 }
theorem vf_X8_costOf : VF yX8_costOf RX8 cX8_costOf 5 (some .int) 3 := ⟨tw_in_X8, tw_im_X8_costOf, tw_se_X8_costOf, tw_c_X8_costOf, by decide, by decide, by decide +kernel⟩
def wp_X8_costOf_27 (Q : Int32 → II → Prop) (x1 : Int32) (x2 : Int32) (x3 : Int32) (v0 : Int32) (I : II) : Prop := (vp_in ((x1 + (nI 29)) + x2) 1372 ∧ (((I 316 ((x1 + (nI 29)) + x2).toNatClampNeg) = (nI 1) → (Q v0 I)) ∧ ((I 316 ((x1 + (nI 29)) + x2).toNatClampNeg) = (nI 2) → (¬ (nI 2) = 0 ∧ (Q ((v0 / (nI 2)) + (nI 1)) I))) ∧ ((I 316 ((x1 + (nI 29)) + x2).toNatClampNeg) = (nI 3) → (Q (v0 + (nI 2)) I)) ∧ ((I 316 ((x1 + (nI 29)) + x2).toNatClampNeg) = (nI 4) → (Q x3 I)) ∧ (¬ (I 316 ((x1 + (nI 29)) + x2).toNatClampNeg) = (nI 1) → ¬ (I 316 ((x1 + (nI 29)) + x2).toNatClampNeg) = (nI 2) → ¬ (I 316 ((x1 + (nI 29)) + x2).toNatClampNeg) = (nI 3) → ¬ (I 316 ((x1 + (nI 29)) + x2).toNatClampNeg) = (nI 4) → ((x3 ≤ (nI 9) → (Q x3 I)) ∧ (¬ x3 ≤ (nI 9) → (Q (nI 9) I))))))
set_option maxHeartbeats 4000000 in
set_option maxRecDepth 100000 in
theorem w_X8_costOf_27 {E : EE} {p : Program} {l : Launch} {e : Env} {s : State} {m : MethodId} {args : Array Value} {below : List Frame} {meth : Method} {c : Code} {Q : Int32 → II → Prop} (X : CX E p s m args meth c cX8_costOf 5 (some .int) RX8) : ∀ (x1 : Int32) (x2 : Int32) (x3 : Int32) (v0 : Int32) (I : II) (H : Heap) (locs : List Loc) (ls : Array Slot), wp_X8_costOf_27 Q x1 x2 x3 v0 I → PP E s H locs I → lv_has ls 5 [(0, .ref (E.2.1 315)), (1, .int x1), (2, .int x2), (3, .int x3)] → W p l e rmX8_costOf s m args below meth c H locs 0 0 (MQ below (va_Qi Q (BU E) E.2.2.2.1) args s 0 0 E.2.2.2.1) (F0 m 27 ls [.int v0]) := by
  obtain ⟨⟨hx, hb, hml, hown, hts⟩, hr, hlk, hK, hST, hN⟩ := id X
  intro x1 x2 x3 v0 I H locs ls h hp hl
  unfold wp_X8_costOf_27 at h
  refine lv_istore (lv' := [(4, .int v0), (0, .ref (E.2.1 315)), (1, .int x1), (2, .int x2), (3, .int x3)]) hx hb dX8_costOf_27 hl (by decide) rfl (fun ls hl => ?_)
  refine lv_aload_n hx hb dX8_costOf_29 rfl (lv_at hl 1 rfl) ?_
  refine f_X8_7 X hp dX8_costOf_30 ?_
  refine lv_iload_n hx hb dX8_costOf_33 rfl (lv_at hl 2 rfl) ?_
  refine lv_bipush (v := (nI 29)) hx hb dX8_costOf_34 (by decide) ?_
  refine lv_iadd hx hb dX8_costOf_36 ?_
  refine lv_iload_n hx hb dX8_costOf_37 rfl (lv_at hl 3 rfl) ?_
  refine lv_iadd hx hb dX8_costOf_38 ?_
  have hv1 := h.1
  have h := h.2
  refine al_i X hp ar_s316 hv1 dX8_costOf_39 ?_
  by_cases c2 : (I 316 ((x1 + (nI 29)) + x2).toNatClampNeg) = (nI 1)
  · have h := h.1 c2
    refine lv_tableIn (off := 32) (tgt := 72) hx hb dX8_costOf_40 (by rw [c2]; decide) (by rw [c2]; decide) (by rw [c2]; rfl) (by decide) ?_
    refine lv_iload hx hb dX8_costOf_72 (lv_at hl 0 rfl) ?_
    exact rt_i X hp h dX8_costOf_74
  have h := h.2
  by_cases c3 : (I 316 ((x1 + (nI 29)) + x2).toNatClampNeg) = (nI 2)
  · have h := h.1 c3
    refine lv_tableIn (off := 35) (tgt := 75) hx hb dX8_costOf_40 (by rw [c3]; decide) (by rw [c3]; decide) (by rw [c3]; rfl) (by decide) ?_
    refine lv_iload hx hb dX8_costOf_75 (lv_at hl 0 rfl) ?_
    refine lv_iconst (v := (nI 2)) hx hb dX8_costOf_77 (by decide) ?_
    have hz4 := h.1
    have h := h.2
    refine lv_idiv hx hb dX8_costOf_78 hz4 ?_
    refine lv_iconst (v := (nI 1)) hx hb dX8_costOf_79 (by decide) ?_
    refine lv_iadd hx hb dX8_costOf_80 ?_
    exact rt_i X hp h dX8_costOf_81
  have h := h.2
  by_cases c5 : (I 316 ((x1 + (nI 29)) + x2).toNatClampNeg) = (nI 3)
  · have h := h.1 c5
    refine lv_tableIn (off := 42) (tgt := 82) hx hb dX8_costOf_40 (by rw [c5]; decide) (by rw [c5]; decide) (by rw [c5]; rfl) (by decide) ?_
    refine lv_iload hx hb dX8_costOf_82 (lv_at hl 0 rfl) ?_
    refine lv_iconst (v := (nI 2)) hx hb dX8_costOf_84 (by decide) ?_
    refine lv_iadd hx hb dX8_costOf_85 ?_
    exact rt_i X hp h dX8_costOf_86
  have h := h.2
  by_cases c6 : (I 316 ((x1 + (nI 29)) + x2).toNatClampNeg) = (nI 4)
  · have h := h.1 c6
    refine lv_tableIn (off := 47) (tgt := 87) hx hb dX8_costOf_40 (by rw [c6]; decide) (by rw [c6]; decide) (by rw [c6]; rfl) (by decide) ?_
    refine lv_iload_n hx hb dX8_costOf_87 rfl (lv_at hl 4 rfl) ?_
    exact rt_i X hp h dX8_costOf_88
  have h := h.2
  have h := h c2 c3 c5 c6
  have e8 : (I 316 ((x1 + (nI 29)) + x2).toNatClampNeg).toInt ≠ 1 := fun q => c2 (Int32.toInt_inj.mp (q.trans (by decide)))
  have e9 : (I 316 ((x1 + (nI 29)) + x2).toNatClampNeg).toInt ≠ 2 := fun q => c3 (Int32.toInt_inj.mp (q.trans (by decide)))
  have e10 : (I 316 ((x1 + (nI 29)) + x2).toNatClampNeg).toInt ≠ 3 := fun q => c5 (Int32.toInt_inj.mp (q.trans (by decide)))
  have e11 : (I 316 ((x1 + (nI 29)) + x2).toNatClampNeg).toInt ≠ 4 := fun q => c6 (Int32.toInt_inj.mp (q.trans (by decide)))
  refine lv_tableOut (tgt := 89) hx hb dX8_costOf_40 (by omega) (by decide) ?_
  refine lv_iload_n hx hb dX8_costOf_89 rfl (lv_at hl 4 rfl) ?_
  refine lv_bipush (v := (nI 9)) hx hb dX8_costOf_90 (by decide) ?_
  refine lv_icmp_le (tgt := 100) hx hb dX8_costOf_92 (by decide) (fun c7 => ?_) (fun c7 => ?_)
  · have h := h.1 c7
    refine lv_iload_n hx hb dX8_costOf_100 rfl (lv_at hl 4 rfl) ?_
    exact rt_i X hp h dX8_costOf_101
  · have h := h.2 c7
    refine lv_bipush (v := (nI 9)) hx hb dX8_costOf_95 (by decide) ?_
    refine lv_goto (tgt := 101) hx hb dX8_costOf_97 (by decide) ?_
    exact rt_i X hp h dX8_costOf_101
def wp_X8_costOf (x1 : Int32) (x2 : Int32) (x3 : Int32) (I : II) (Q : Int32 → II → Prop) : Prop := (vp_in ((x1 + (nI 37)) + x2) 1372 ∧ (((nI 1) ≤ (x3 - (I 316 ((x1 + (nI 37)) + x2).toNatClampNeg)) → (wp_X8_costOf_27 Q x1 x2 x3 (x3 - (I 316 ((x1 + (nI 37)) + x2).toNatClampNeg)) I)) ∧ (¬ (nI 1) ≤ (x3 - (I 316 ((x1 + (nI 37)) + x2).toNatClampNeg)) → (wp_X8_costOf_27 Q x1 x2 x3 (nI 1) I))))
set_option maxHeartbeats 4000000 in
set_option maxRecDepth 100000 in
theorem w_X8_costOf_0 {E : EE} {p : Program} {l : Launch} {e : Env} {s : State} {m : MethodId} {args : Array Value} {below : List Frame} {meth : Method} {c : Code} {Q : Int32 → II → Prop} (X : CX E p s m args meth c cX8_costOf 5 (some .int) RX8) : ∀ (x1 : Int32) (x2 : Int32) (x3 : Int32) (I : II) (H : Heap) (locs : List Loc) (ls : Array Slot), wp_X8_costOf x1 x2 x3 I Q → PP E s H locs I → lv_has ls 5 [(0, .ref (E.2.1 315)), (1, .int x1), (2, .int x2), (3, .int x3)] → W p l e rmX8_costOf s m args below meth c H locs 0 0 (MQ below (va_Qi Q (BU E) E.2.2.2.1) args s 0 0 E.2.2.2.1) (F0 m 0 ls []) := by
  obtain ⟨⟨hx, hb, hml, hown, hts⟩, hr, hlk, hK, hST, hN⟩ := id X
  intro x1 x2 x3 I H locs ls h hp hl
  unfold wp_X8_costOf at h
  refine lv_iload_n hx hb dX8_costOf_0 rfl (lv_at hl 3 rfl) ?_
  refine lv_aload_n hx hb dX8_costOf_1 rfl (lv_at hl 0 rfl) ?_
  refine f_X8_7 X hp dX8_costOf_2 ?_
  refine lv_iload_n hx hb dX8_costOf_5 rfl (lv_at hl 1 rfl) ?_
  refine lv_bipush (v := (nI 37)) hx hb dX8_costOf_6 (by decide) ?_
  refine lv_iadd hx hb dX8_costOf_8 ?_
  refine lv_iload_n hx hb dX8_costOf_9 rfl (lv_at hl 2 rfl) ?_
  refine lv_iadd hx hb dX8_costOf_10 ?_
  have hv1 := h.1
  have h := h.2
  refine al_i X hp ar_s316 hv1 dX8_costOf_11 ?_
  refine lv_isub hx hb dX8_costOf_12 ?_
  refine lv_istore (lv' := [(4, .int (x3 - (I 316 ((x1 + (nI 37)) + x2).toNatClampNeg))), (0, .ref (E.2.1 315)), (1, .int x1), (2, .int x2), (3, .int x3)]) hx hb dX8_costOf_13 hl (by decide) rfl (fun ls hl => ?_)
  refine lv_iload hx hb dX8_costOf_15 (lv_at hl 0 rfl) ?_
  refine lv_iconst (v := (nI 1)) hx hb dX8_costOf_17 (by decide) ?_
  refine lv_icmp_ge (tgt := 25) hx hb dX8_costOf_18 (by decide) (fun c2 => ?_) (fun c2 => ?_)
  · have h := h.1 c2
    refine lv_iload hx hb dX8_costOf_25 (lv_at hl 0 rfl) ?_
    exact w_X8_costOf_27 X  _ _ _ _ _ _ _ _ h hp (lv_sub hl [1, 2, 3, 4] rfl)
  · have h := h.2 c2
    refine lv_iconst (v := (nI 1)) hx hb dX8_costOf_21 (by decide) ?_
    refine lv_goto (tgt := 27) hx hb dX8_costOf_22 (by decide) ?_
    exact w_X8_costOf_27 X  _ _ _ _ _ _ _ _ h hp (lv_sub hl [1, 2, 3, 4] rfl)
set_option maxRecDepth 100000 in
theorem C_X8_costOf {E : EE} {l : Launch} {x1 : Int32} {x2 : Int32} {x3 : Int32} {I : II} {Q : Int32 → II → Prop} (h : wp_X8_costOf x1 x2 x3 I Q) : Met l yX8_costOf (Cond.code yX8_costOf cX8_costOf 5 (some .int) :: lwT) rmX8_costOf (va_Pc [.ref (E.2.1 315), .int x1, .int x2, .int x3] (PU E I)) (va_Qi Q (BU E) E.2.2.2.1) 0 0 E.2.2.2.1 :=
  ofWalk [.ref (E.2.1 315), .int x1, .int x2, .int x3] (by decide) tw_c_X8_costOf (Nat.le_of_ble_eq_true rfl) (fun p e s m below meth c ls X hp hl => w_X8_costOf_0 X _ _ _ _ _ _ _ h hp hl)
abbrev rmX8_mayPay : Room := { frames := 1, cells := 0, slots := 0, locals := 24 }
theorem vf_X8_mayPay : VF yX8_mayPay RX8 cX8_mayPay 4 (some .boolean) 3 := ⟨tw_in_X8, tw_im_X8_mayPay, tw_se_X8_mayPay, tw_c_X8_mayPay, by decide, by decide, by decide +kernel⟩
def wp_X8_mayPay (x1 : Int32) (x2 : Int32) (x3 : Int32) (I : II) (Q : Int32 → II → Prop) : Prop := (vp_in ((x1 + (nI 41)) + x2) 1372 ∧ (wp_X8_costOf x1 x2 x3 I (fun r3 I2 => (vp_in (x1 + (nI 1)) 1372 ∧ ((((I 316 ((x1 + (nI 41)) + x2).toNatClampNeg) - r3) < (I2 316 (x1 + (nI 1)).toNatClampNeg) → (Q (nI 0) I2)) ∧ (¬ ((I 316 ((x1 + (nI 41)) + x2).toNatClampNeg) - r3) < (I2 316 (x1 + (nI 1)).toNatClampNeg) → (Q (nI 1) I2)))))))
set_option maxHeartbeats 4000000 in
set_option maxRecDepth 100000 in
theorem w_X8_mayPay_0 {E : EE} {p : Program} {l : Launch} {e : Env} {s : State} {m : MethodId} {args : Array Value} {below : List Frame} {meth : Method} {c : Code} {Q : Int32 → II → Prop} (X : CX E p s m args meth c cX8_mayPay 4 (some .boolean) RX8) : ∀ (x1 : Int32) (x2 : Int32) (x3 : Int32) (I : II) (H : Heap) (locs : List Loc) (ls : Array Slot), wp_X8_mayPay x1 x2 x3 I Q → PP E s H locs I → lv_has ls 4 [(0, .ref (E.2.1 315)), (1, .int x1), (2, .int x2), (3, .int x3)] → W p l e rmX8_mayPay s m args below meth c H locs 0 0 (MQ below (va_Qi Q (BU E) E.2.2.2.1) args s 0 0 E.2.2.2.1) (F0 m 0 ls []) := by
  obtain ⟨⟨hx, hb, hml, hown, hts⟩, hr, hlk, hK, hST, hN⟩ := id X
  intro x1 x2 x3 I H locs ls h hp hl
  unfold wp_X8_mayPay at h
  refine lv_aload_n hx hb dX8_mayPay_0 rfl (lv_at hl 0 rfl) ?_
  refine f_X8_7 X hp dX8_mayPay_1 ?_
  refine lv_iload_n hx hb dX8_mayPay_4 rfl (lv_at hl 1 rfl) ?_
  refine lv_bipush (v := (nI 41)) hx hb dX8_mayPay_5 (by decide) ?_
  refine lv_iadd hx hb dX8_mayPay_7 ?_
  refine lv_iload_n hx hb dX8_mayPay_8 rfl (lv_at hl 2 rfl) ?_
  refine lv_iadd hx hb dX8_mayPay_9 ?_
  have hv1 := h.1
  have h := h.2
  refine al_i X hp ar_s316 hv1 dX8_mayPay_10 ?_
  refine lv_aload_n hx hb dX8_mayPay_11 rfl (lv_at hl 0 rfl) ?_
  refine lv_iload_n hx hb dX8_mayPay_12 rfl (lv_at hl 1 rfl) ?_
  refine lv_iload_n hx hb dX8_mayPay_13 rfl (lv_at hl 2 rfl) ?_
  refine lv_iload_n hx hb dX8_mayPay_14 rfl (lv_at hl 3 rfl) ?_
  refine ki (kV (As := [.int x1, .int x2, .int x3]) (rest := [.int (I 316 ((x1 + (nI 41)) + x2).toNatClampNeg)]) X hp (C_X8_costOf  h) tw_ml_X8_145 vf_X8_costOf ⟨rfl, rfl, Nat.le_of_ble_eq_true rfl, Nat.le_of_ble_eq_true rfl⟩ (pr_rcv X hp (k := 315) (by decide) (ob_315 _) (q := (RX8, TX8, 18)) rfl) rfl hl.1 rfl (Nat.le_of_ble_eq_true rfl) dX8_mayPay_15) hp (fun r3 I2 H locs h hp => ?_)
  refine lv_isub hx hb dX8_mayPay_18 ?_
  refine lv_aload_n hx hb dX8_mayPay_19 rfl (lv_at hl 0 rfl) ?_
  refine f_X8_7 X hp dX8_mayPay_20 ?_
  refine lv_iload_n hx hb dX8_mayPay_23 rfl (lv_at hl 1 rfl) ?_
  refine lv_iconst (v := (nI 1)) hx hb dX8_mayPay_24 (by decide) ?_
  refine lv_iadd hx hb dX8_mayPay_25 ?_
  have hv4 := h.1
  have h := h.2
  refine al_i X hp ar_s316 hv4 dX8_mayPay_26 ?_
  refine lv_icmp_lt (tgt := 34) hx hb dX8_mayPay_27 (by decide) (fun c5 => ?_) (fun c5 => ?_)
  · have h := h.1 c5
    refine lv_iconst (v := (nI 0)) hx hb dX8_mayPay_34 (by decide) ?_
    exact rt_z X hp ⟨Or.inl rfl, h⟩ dX8_mayPay_35
  · have h := h.2 c5
    refine lv_iconst (v := (nI 1)) hx hb dX8_mayPay_30 (by decide) ?_
    refine lv_goto (tgt := 35) hx hb dX8_mayPay_31 (by decide) ?_
    exact rt_z X hp ⟨Or.inr rfl, h⟩ dX8_mayPay_35
set_option maxRecDepth 100000 in
theorem C_X8_mayPay {E : EE} {l : Launch} {x1 : Int32} {x2 : Int32} {x3 : Int32} {I : II} {Q : Int32 → II → Prop} (h : wp_X8_mayPay x1 x2 x3 I Q) : Met l yX8_mayPay (Cond.code yX8_mayPay cX8_mayPay 4 (some .boolean) :: lwT) rmX8_mayPay (va_Pc [.ref (E.2.1 315), .int x1, .int x2, .int x3] (PU E I)) (va_Qi Q (BU E) E.2.2.2.1) 0 0 E.2.2.2.1 :=
  ofWalk [.ref (E.2.1 315), .int x1, .int x2, .int x3] (by decide) tw_c_X8_mayPay (Nat.le_of_ble_eq_true rfl) (fun p e s m below meth c ls X hp hl => w_X8_mayPay_0 X _ _ _ _ _ _ _ h hp hl)
abbrev rmX8_whoServes : Room := { frames := 2, cells := 0, slots := 0, locals := 47 }
theorem vf_X8_whoServes : VF yX8_whoServes RX8 cX8_whoServes 8 (some .int) 2 := ⟨tw_in_X8, tw_im_X8_whoServes, tw_se_X8_whoServes, tw_c_X8_whoServes, by decide, by decide, by decide +kernel⟩
def wp_X8_whoServes_184 (Q : Int32 → II → Prop) (k19 : Int32 → Int32 → Int32 → Int32 → Int32 → II → Prop) (x1 : Int32) (x2 : Int32) (x3 : Int32) (x5 : Int32) (v0 : Int32) (I : II) : Prop := (k19 x1 x2 x3 v0 (x5 + (nI 1)) I)
set_option maxHeartbeats 4000000 in
set_option maxRecDepth 100000 in
theorem w_X8_whoServes_184 {E : EE} {p : Program} {l : Launch} {e : Env} {s : State} {m : MethodId} {args : Array Value} {below : List Frame} {meth : Method} {c : Code} {Q : Int32 → II → Prop} {k19 : Int32 → Int32 → Int32 → Int32 → Int32 → II → Prop} (X : CX E p s m args meth c cX8_whoServes 8 (some .int) RX8) (K19 : ∀ (x1 : Int32) (x2 : Int32) (x3 : Int32) (x4 : Int32) (x5 : Int32) (I : II) (H : Heap) (locs : List Loc) (ls : Array Slot), k19 x1 x2 x3 x4 x5 I → PP E s H locs I → lv_has ls 8 [(0, .ref (E.2.1 315)), (1, .int x1), (2, .int x2), (3, .int x3), (4, .int x4), (5, .int x5)] → W p l e rmX8_whoServes s m args below meth c H locs 0 0 (MQ below (va_Qi Q (BU E) E.2.2.2.1) args s 0 0 E.2.2.2.1) (F0 m 19 ls [])) : ∀ (x1 : Int32) (x2 : Int32) (x3 : Int32) (x5 : Int32) (v0 : Int32) (I : II) (H : Heap) (locs : List Loc) (ls : Array Slot), wp_X8_whoServes_184 Q k19 x1 x2 x3 x5 v0 I → PP E s H locs I → lv_has ls 8 [(0, .ref (E.2.1 315)), (1, .int x1), (2, .int x2), (3, .int x3), (5, .int x5)] → W p l e rmX8_whoServes s m args below meth c H locs 0 0 (MQ below (va_Qi Q (BU E) E.2.2.2.1) args s 0 0 E.2.2.2.1) (F0 m 184 ls [.int v0]) := by
  obtain ⟨⟨hx, hb, hml, hown, hts⟩, hr, hlk, hK, hST, hN⟩ := id X
  intro x1 x2 x3 x5 v0 I H locs ls h hp hl
  unfold wp_X8_whoServes_184 at h
  refine lv_istore (lv' := [(4, .int v0), (0, .ref (E.2.1 315)), (1, .int x1), (2, .int x2), (3, .int x3), (5, .int x5)]) hx hb dX8_whoServes_184 hl (by decide) rfl (fun ls hl => ?_)
  refine lv_iinc (v := (x5 + (nI 1))) (lv' := [(5, .int (x5 + (nI 1))), (4, .int v0), (0, .ref (E.2.1 315)), (1, .int x1), (2, .int x2), (3, .int x3)]) hx hb dX8_whoServes_186 hl (k := 5) rfl rfl (by decide) rfl (fun ls hl => ?_)
  refine lv_goto (tgt := 19) hx hb dX8_whoServes_189 (by decide) ?_
  exact K19 _ _ _ _ _ _ _ _ _ h hp (lv_sub hl [2, 3, 4, 5, 1, 0] rfl)
def wp_X8_whoServes_182 (Q : Int32 → II → Prop) (k19 : Int32 → Int32 → Int32 → Int32 → Int32 → II → Prop) (x1 : Int32) (x2 : Int32) (x3 : Int32) (x4 : Int32) (x5 : Int32) (I : II) : Prop := (wp_X8_whoServes_184 Q k19 x1 x2 x3 x5 x4 I)
set_option maxHeartbeats 4000000 in
set_option maxRecDepth 100000 in
theorem w_X8_whoServes_182 {E : EE} {p : Program} {l : Launch} {e : Env} {s : State} {m : MethodId} {args : Array Value} {below : List Frame} {meth : Method} {c : Code} {Q : Int32 → II → Prop} {k19 : Int32 → Int32 → Int32 → Int32 → Int32 → II → Prop} (X : CX E p s m args meth c cX8_whoServes 8 (some .int) RX8) (K19 : ∀ (x1 : Int32) (x2 : Int32) (x3 : Int32) (x4 : Int32) (x5 : Int32) (I : II) (H : Heap) (locs : List Loc) (ls : Array Slot), k19 x1 x2 x3 x4 x5 I → PP E s H locs I → lv_has ls 8 [(0, .ref (E.2.1 315)), (1, .int x1), (2, .int x2), (3, .int x3), (4, .int x4), (5, .int x5)] → W p l e rmX8_whoServes s m args below meth c H locs 0 0 (MQ below (va_Qi Q (BU E) E.2.2.2.1) args s 0 0 E.2.2.2.1) (F0 m 19 ls [])) : ∀ (x1 : Int32) (x2 : Int32) (x3 : Int32) (x4 : Int32) (x5 : Int32) (I : II) (H : Heap) (locs : List Loc) (ls : Array Slot), wp_X8_whoServes_182 Q k19 x1 x2 x3 x4 x5 I → PP E s H locs I → lv_has ls 8 [(0, .ref (E.2.1 315)), (1, .int x1), (2, .int x2), (3, .int x3), (4, .int x4), (5, .int x5)] → W p l e rmX8_whoServes s m args below meth c H locs 0 0 (MQ below (va_Qi Q (BU E) E.2.2.2.1) args s 0 0 E.2.2.2.1) (F0 m 182 ls []) := by
  obtain ⟨⟨hx, hb, hml, hown, hts⟩, hr, hlk, hK, hST, hN⟩ := id X
  intro x1 x2 x3 x4 x5 I H locs ls h hp hl
  unfold wp_X8_whoServes_182 at h
  refine lv_iload hx hb dX8_whoServes_182 (lv_at hl 4 rfl) ?_
  exact w_X8_whoServes_184 X K19 _ _ _ _ _ _ _ _ _ h hp (lv_sub hl [0, 1, 2, 3, 5] rfl)
def wp_X8_whoServes_165 (Q : Int32 → II → Prop) (k19 : Int32 → Int32 → Int32 → Int32 → Int32 → II → Prop) (x1 : Int32) (x2 : Int32) (x3 : Int32) (x4 : Int32) (x5 : Int32) (x6 : Int32) (v0 : Int32) (I : II) : Prop := ((x6 = 0 → (wp_X8_whoServes_182 Q k19 x1 x2 x3 x4 x5 I)) ∧ (¬ x6 = 0 → ((v0 = 0 → (wp_X8_whoServes_182 Q k19 x1 x2 x3 x4 x5 I)) ∧ (¬ v0 = 0 → (wp_X8_whoServes_184 Q k19 x1 x2 x3 x5 x5 I)))))
set_option maxHeartbeats 4000000 in
set_option maxRecDepth 100000 in
theorem w_X8_whoServes_165 {E : EE} {p : Program} {l : Launch} {e : Env} {s : State} {m : MethodId} {args : Array Value} {below : List Frame} {meth : Method} {c : Code} {Q : Int32 → II → Prop} {k19 : Int32 → Int32 → Int32 → Int32 → Int32 → II → Prop} (X : CX E p s m args meth c cX8_whoServes 8 (some .int) RX8) (K19 : ∀ (x1 : Int32) (x2 : Int32) (x3 : Int32) (x4 : Int32) (x5 : Int32) (I : II) (H : Heap) (locs : List Loc) (ls : Array Slot), k19 x1 x2 x3 x4 x5 I → PP E s H locs I → lv_has ls 8 [(0, .ref (E.2.1 315)), (1, .int x1), (2, .int x2), (3, .int x3), (4, .int x4), (5, .int x5)] → W p l e rmX8_whoServes s m args below meth c H locs 0 0 (MQ below (va_Qi Q (BU E) E.2.2.2.1) args s 0 0 E.2.2.2.1) (F0 m 19 ls [])) : ∀ (x1 : Int32) (x2 : Int32) (x3 : Int32) (x4 : Int32) (x5 : Int32) (x6 : Int32) (v0 : Int32) (I : II) (H : Heap) (locs : List Loc) (ls : Array Slot), wp_X8_whoServes_165 Q k19 x1 x2 x3 x4 x5 x6 v0 I → PP E s H locs I → lv_has ls 8 [(0, .ref (E.2.1 315)), (1, .int x1), (2, .int x2), (3, .int x3), (4, .int x4), (5, .int x5), (6, .int x6)] → W p l e rmX8_whoServes s m args below meth c H locs 0 0 (MQ below (va_Qi Q (BU E) E.2.2.2.1) args s 0 0 E.2.2.2.1) (F0 m 165 ls [.int v0]) := by
  obtain ⟨⟨hx, hb, hml, hown, hts⟩, hr, hlk, hK, hST, hN⟩ := id X
  intro x1 x2 x3 x4 x5 x6 v0 I H locs ls h hp hl
  unfold wp_X8_whoServes_165 at h
  refine lv_istore (lv' := [(7, .int v0), (0, .ref (E.2.1 315)), (1, .int x1), (2, .int x2), (3, .int x3), (4, .int x4), (5, .int x5), (6, .int x6)]) hx hb dX8_whoServes_165 hl (by decide) rfl (fun ls hl => ?_)
  refine lv_iload hx hb dX8_whoServes_167 (lv_at hl 7 rfl) ?_
  refine lv_if_eq (tgt := 182) hx hb dX8_whoServes_169 (by decide) (fun c1 => ?_) (fun c1 => ?_)
  · have h := h.1 c1
    exact w_X8_whoServes_182 X K19 _ _ _ _ _ _ _ _ _ h hp (lv_sub hl [1, 2, 3, 4, 5, 6] rfl)
  · have h := h.2 c1
    refine lv_iload hx hb dX8_whoServes_172 (lv_at hl 0 rfl) ?_
    refine lv_if_eq (tgt := 182) hx hb dX8_whoServes_174 (by decide) (fun c2 => ?_) (fun c2 => ?_)
    · have h := h.1 c2
      exact w_X8_whoServes_182 X K19 _ _ _ _ _ _ _ _ _ h hp (lv_sub hl [1, 2, 3, 4, 5, 6] rfl)
    · have h := h.2 c2
      refine lv_iload hx hb dX8_whoServes_177 (lv_at hl 6 rfl) ?_
      refine lv_goto (tgt := 184) hx hb dX8_whoServes_179 (by decide) ?_
      exact w_X8_whoServes_184 X K19 _ _ _ _ _ _ _ _ _ h hp (lv_sub hl [1, 2, 3, 4, 6] rfl)
def wp_X8_whoServes_160 (Q : Int32 → II → Prop) (k19 : Int32 → Int32 → Int32 → Int32 → Int32 → II → Prop) (x1 : Int32) (x2 : Int32) (x3 : Int32) (x4 : Int32) (x5 : Int32) (x6 : Int32) (I : II) : Prop := (wp_X8_whoServes_165 Q k19 x1 x2 x3 x4 x5 x6 (nI 1) I)
set_option maxHeartbeats 4000000 in
set_option maxRecDepth 100000 in
theorem w_X8_whoServes_160 {E : EE} {p : Program} {l : Launch} {e : Env} {s : State} {m : MethodId} {args : Array Value} {below : List Frame} {meth : Method} {c : Code} {Q : Int32 → II → Prop} {k19 : Int32 → Int32 → Int32 → Int32 → Int32 → II → Prop} (X : CX E p s m args meth c cX8_whoServes 8 (some .int) RX8) (K19 : ∀ (x1 : Int32) (x2 : Int32) (x3 : Int32) (x4 : Int32) (x5 : Int32) (I : II) (H : Heap) (locs : List Loc) (ls : Array Slot), k19 x1 x2 x3 x4 x5 I → PP E s H locs I → lv_has ls 8 [(0, .ref (E.2.1 315)), (1, .int x1), (2, .int x2), (3, .int x3), (4, .int x4), (5, .int x5)] → W p l e rmX8_whoServes s m args below meth c H locs 0 0 (MQ below (va_Qi Q (BU E) E.2.2.2.1) args s 0 0 E.2.2.2.1) (F0 m 19 ls [])) : ∀ (x1 : Int32) (x2 : Int32) (x3 : Int32) (x4 : Int32) (x5 : Int32) (x6 : Int32) (I : II) (H : Heap) (locs : List Loc) (ls : Array Slot), wp_X8_whoServes_160 Q k19 x1 x2 x3 x4 x5 x6 I → PP E s H locs I → lv_has ls 8 [(0, .ref (E.2.1 315)), (1, .int x1), (2, .int x2), (3, .int x3), (4, .int x4), (5, .int x5), (6, .int x6)] → W p l e rmX8_whoServes s m args below meth c H locs 0 0 (MQ below (va_Qi Q (BU E) E.2.2.2.1) args s 0 0 E.2.2.2.1) (F0 m 160 ls []) := by
  obtain ⟨⟨hx, hb, hml, hown, hts⟩, hr, hlk, hK, hST, hN⟩ := id X
  intro x1 x2 x3 x4 x5 x6 I H locs ls h hp hl
  unfold wp_X8_whoServes_160 at h
  refine lv_iconst (v := (nI 1)) hx hb dX8_whoServes_160 (by decide) ?_
  refine lv_goto (tgt := 165) hx hb dX8_whoServes_161 (by decide) ?_
  exact w_X8_whoServes_165 X K19 _ _ _ _ _ _ _ _ _ _ _ h hp (lv_sub hl [0, 1, 2, 3, 4, 5, 6] rfl)
def wp_X8_whoServes_164 (Q : Int32 → II → Prop) (k19 : Int32 → Int32 → Int32 → Int32 → Int32 → II → Prop) (x1 : Int32) (x2 : Int32) (x3 : Int32) (x4 : Int32) (x5 : Int32) (x6 : Int32) (I : II) : Prop := (wp_X8_whoServes_165 Q k19 x1 x2 x3 x4 x5 x6 (nI 0) I)
set_option maxHeartbeats 4000000 in
set_option maxRecDepth 100000 in
theorem w_X8_whoServes_164 {E : EE} {p : Program} {l : Launch} {e : Env} {s : State} {m : MethodId} {args : Array Value} {below : List Frame} {meth : Method} {c : Code} {Q : Int32 → II → Prop} {k19 : Int32 → Int32 → Int32 → Int32 → Int32 → II → Prop} (X : CX E p s m args meth c cX8_whoServes 8 (some .int) RX8) (K19 : ∀ (x1 : Int32) (x2 : Int32) (x3 : Int32) (x4 : Int32) (x5 : Int32) (I : II) (H : Heap) (locs : List Loc) (ls : Array Slot), k19 x1 x2 x3 x4 x5 I → PP E s H locs I → lv_has ls 8 [(0, .ref (E.2.1 315)), (1, .int x1), (2, .int x2), (3, .int x3), (4, .int x4), (5, .int x5)] → W p l e rmX8_whoServes s m args below meth c H locs 0 0 (MQ below (va_Qi Q (BU E) E.2.2.2.1) args s 0 0 E.2.2.2.1) (F0 m 19 ls [])) : ∀ (x1 : Int32) (x2 : Int32) (x3 : Int32) (x4 : Int32) (x5 : Int32) (x6 : Int32) (I : II) (H : Heap) (locs : List Loc) (ls : Array Slot), wp_X8_whoServes_164 Q k19 x1 x2 x3 x4 x5 x6 I → PP E s H locs I → lv_has ls 8 [(0, .ref (E.2.1 315)), (1, .int x1), (2, .int x2), (3, .int x3), (4, .int x4), (5, .int x5), (6, .int x6)] → W p l e rmX8_whoServes s m args below meth c H locs 0 0 (MQ below (va_Qi Q (BU E) E.2.2.2.1) args s 0 0 E.2.2.2.1) (F0 m 164 ls []) := by
  obtain ⟨⟨hx, hb, hml, hown, hts⟩, hr, hlk, hK, hST, hN⟩ := id X
  intro x1 x2 x3 x4 x5 x6 I H locs ls h hp hl
  unfold wp_X8_whoServes_164 at h
  refine lv_iconst (v := (nI 0)) hx hb dX8_whoServes_164 (by decide) ?_
  exact w_X8_whoServes_165 X K19 _ _ _ _ _ _ _ _ _ _ _ h hp (lv_sub hl [0, 1, 2, 3, 4, 5, 6] rfl)
def wp_X8_whoServes_79 (Q : Int32 → II → Prop) (k19 : Int32 → Int32 → Int32 → Int32 → Int32 → II → Prop) (x1 : Int32) (x2 : Int32) (x3 : Int32) (x4 : Int32) (x5 : Int32) (v0 : Int32) (I : II) : Prop := ((x4 = (-nI 1000000) → (wp_X8_whoServes_160 Q k19 x1 x2 x3 x4 x5 v0 I)) ∧ (¬ x4 = (-nI 1000000) → (vp_in ((x1 + (nI 22)) + x2) 1372 ∧ ((¬ (I 316 ((x1 + (nI 22)) + x2).toNatClampNeg) = (nI 1) → (vp_in ((x1 + (nI 41)) + x5) 1372 ∧ (vp_in ((x1 + (nI 41)) + x4) 1372 ∧ (((I 316 ((x1 + (nI 41)) + x4).toNatClampNeg) ≤ (I 316 ((x1 + (nI 41)) + x5).toNatClampNeg) → (wp_X8_whoServes_164 Q k19 x1 x2 x3 x4 x5 v0 I)) ∧ (¬ (I 316 ((x1 + (nI 41)) + x4).toNatClampNeg) ≤ (I 316 ((x1 + (nI 41)) + x5).toNatClampNeg) → (wp_X8_whoServes_160 Q k19 x1 x2 x3 x4 x5 v0 I)))))) ∧ ((I 316 ((x1 + (nI 22)) + x2).toNatClampNeg) = (nI 1) → (vp_in ((x1 + (nI 41)) + x5) 1372 ∧ (vp_in ((x1 + (nI 41)) + x4) 1372 ∧ (((I 316 ((x1 + (nI 41)) + x5).toNatClampNeg) ≤ (I 316 ((x1 + (nI 41)) + x4).toNatClampNeg) → (wp_X8_whoServes_164 Q k19 x1 x2 x3 x4 x5 v0 I)) ∧ (¬ (I 316 ((x1 + (nI 41)) + x5).toNatClampNeg) ≤ (I 316 ((x1 + (nI 41)) + x4).toNatClampNeg) → (wp_X8_whoServes_160 Q k19 x1 x2 x3 x4 x5 v0 I))))))))))
set_option maxHeartbeats 4000000 in
set_option maxRecDepth 100000 in
theorem w_X8_whoServes_79 {E : EE} {p : Program} {l : Launch} {e : Env} {s : State} {m : MethodId} {args : Array Value} {below : List Frame} {meth : Method} {c : Code} {Q : Int32 → II → Prop} {k19 : Int32 → Int32 → Int32 → Int32 → Int32 → II → Prop} (X : CX E p s m args meth c cX8_whoServes 8 (some .int) RX8) (K19 : ∀ (x1 : Int32) (x2 : Int32) (x3 : Int32) (x4 : Int32) (x5 : Int32) (I : II) (H : Heap) (locs : List Loc) (ls : Array Slot), k19 x1 x2 x3 x4 x5 I → PP E s H locs I → lv_has ls 8 [(0, .ref (E.2.1 315)), (1, .int x1), (2, .int x2), (3, .int x3), (4, .int x4), (5, .int x5)] → W p l e rmX8_whoServes s m args below meth c H locs 0 0 (MQ below (va_Qi Q (BU E) E.2.2.2.1) args s 0 0 E.2.2.2.1) (F0 m 19 ls [])) : ∀ (x1 : Int32) (x2 : Int32) (x3 : Int32) (x4 : Int32) (x5 : Int32) (v0 : Int32) (I : II) (H : Heap) (locs : List Loc) (ls : Array Slot), wp_X8_whoServes_79 Q k19 x1 x2 x3 x4 x5 v0 I → PP E s H locs I → lv_has ls 8 [(0, .ref (E.2.1 315)), (1, .int x1), (2, .int x2), (3, .int x3), (4, .int x4), (5, .int x5)] → W p l e rmX8_whoServes s m args below meth c H locs 0 0 (MQ below (va_Qi Q (BU E) E.2.2.2.1) args s 0 0 E.2.2.2.1) (F0 m 79 ls [.int v0]) := by
  obtain ⟨⟨hx, hb, hml, hown, hts⟩, hr, hlk, hK, hST, hN⟩ := id X
  intro x1 x2 x3 x4 x5 v0 I H locs ls h hp hl
  unfold wp_X8_whoServes_79 at h
  refine lv_istore (lv' := [(6, .int v0), (0, .ref (E.2.1 315)), (1, .int x1), (2, .int x2), (3, .int x3), (4, .int x4), (5, .int x5)]) hx hb dX8_whoServes_79 hl (by decide) rfl (fun ls hl => ?_)
  refine lv_iload hx hb dX8_whoServes_81 (lv_at hl 5 rfl) ?_
  refine lv_ldc (v := (-nI 1000000)) hx hb hown (hts _ tw_k_X8_149) dX8_whoServes_83 ?_
  refine lv_icmp_eq (tgt := 160) hx hb dX8_whoServes_85 (by decide) (fun c1 => ?_) (fun c1 => ?_)
  · have h := h.1 c1
    exact w_X8_whoServes_160 X K19 _ _ _ _ _ _ _ _ _ _ h hp (lv_sub hl [1, 2, 3, 4, 5, 6, 0] rfl)
  · have h := h.2 c1
    refine lv_aload_n hx hb dX8_whoServes_88 rfl (lv_at hl 1 rfl) ?_
    refine f_X8_7 X hp dX8_whoServes_89 ?_
    refine lv_iload_n hx hb dX8_whoServes_92 rfl (lv_at hl 2 rfl) ?_
    refine lv_bipush (v := (nI 22)) hx hb dX8_whoServes_93 (by decide) ?_
    refine lv_iadd hx hb dX8_whoServes_95 ?_
    refine lv_iload_n hx hb dX8_whoServes_96 rfl (lv_at hl 3 rfl) ?_
    refine lv_iadd hx hb dX8_whoServes_97 ?_
    have hv2 := h.1
    have h := h.2
    refine al_i X hp ar_s316 hv2 dX8_whoServes_98 ?_
    refine lv_iconst (v := (nI 1)) hx hb dX8_whoServes_99 (by decide) ?_
    refine lv_icmp_ne (tgt := 133) hx hb dX8_whoServes_100 (by decide) (fun c3 => ?_) (fun c3 => ?_)
    · have h := h.1 c3
      refine lv_aload_n hx hb dX8_whoServes_133 rfl (lv_at hl 1 rfl) ?_
      refine f_X8_7 X hp dX8_whoServes_134 ?_
      refine lv_iload_n hx hb dX8_whoServes_137 rfl (lv_at hl 2 rfl) ?_
      refine lv_bipush (v := (nI 41)) hx hb dX8_whoServes_138 (by decide) ?_
      refine lv_iadd hx hb dX8_whoServes_140 ?_
      refine lv_iload hx hb dX8_whoServes_141 (lv_at hl 6 rfl) ?_
      refine lv_iadd hx hb dX8_whoServes_143 ?_
      have hv4 := h.1
      have h := h.2
      refine al_i X hp ar_s316 hv4 dX8_whoServes_144 ?_
      refine lv_aload_n hx hb dX8_whoServes_145 rfl (lv_at hl 1 rfl) ?_
      refine f_X8_7 X hp dX8_whoServes_146 ?_
      refine lv_iload_n hx hb dX8_whoServes_149 rfl (lv_at hl 2 rfl) ?_
      refine lv_bipush (v := (nI 41)) hx hb dX8_whoServes_150 (by decide) ?_
      refine lv_iadd hx hb dX8_whoServes_152 ?_
      refine lv_iload hx hb dX8_whoServes_153 (lv_at hl 5 rfl) ?_
      refine lv_iadd hx hb dX8_whoServes_155 ?_
      have hv5 := h.1
      have h := h.2
      refine al_i X hp ar_s316 hv5 dX8_whoServes_156 ?_
      refine lv_icmp_ge (tgt := 164) hx hb dX8_whoServes_157 (by decide) (fun c6 => ?_) (fun c6 => ?_)
      · have h := h.1 c6
        exact w_X8_whoServes_164 X K19 _ _ _ _ _ _ _ _ _ _ h hp (lv_sub hl [1, 2, 3, 4, 5, 6, 0] rfl)
      · have h := h.2 c6
        exact w_X8_whoServes_160 X K19 _ _ _ _ _ _ _ _ _ _ h hp (lv_sub hl [1, 2, 3, 4, 5, 6, 0] rfl)
    · have h := h.2 c3
      refine lv_aload_n hx hb dX8_whoServes_103 rfl (lv_at hl 1 rfl) ?_
      refine f_X8_7 X hp dX8_whoServes_104 ?_
      refine lv_iload_n hx hb dX8_whoServes_107 rfl (lv_at hl 2 rfl) ?_
      refine lv_bipush (v := (nI 41)) hx hb dX8_whoServes_108 (by decide) ?_
      refine lv_iadd hx hb dX8_whoServes_110 ?_
      refine lv_iload hx hb dX8_whoServes_111 (lv_at hl 6 rfl) ?_
      refine lv_iadd hx hb dX8_whoServes_113 ?_
      have hv7 := h.1
      have h := h.2
      refine al_i X hp ar_s316 hv7 dX8_whoServes_114 ?_
      refine lv_aload_n hx hb dX8_whoServes_115 rfl (lv_at hl 1 rfl) ?_
      refine f_X8_7 X hp dX8_whoServes_116 ?_
      refine lv_iload_n hx hb dX8_whoServes_119 rfl (lv_at hl 2 rfl) ?_
      refine lv_bipush (v := (nI 41)) hx hb dX8_whoServes_120 (by decide) ?_
      refine lv_iadd hx hb dX8_whoServes_122 ?_
      refine lv_iload hx hb dX8_whoServes_123 (lv_at hl 5 rfl) ?_
      refine lv_iadd hx hb dX8_whoServes_125 ?_
      have hv8 := h.1
      have h := h.2
      refine al_i X hp ar_s316 hv8 dX8_whoServes_126 ?_
      refine lv_icmp_le (tgt := 164) hx hb dX8_whoServes_127 (by decide) (fun c9 => ?_) (fun c9 => ?_)
      · have h := h.1 c9
        exact w_X8_whoServes_164 X K19 _ _ _ _ _ _ _ _ _ _ h hp (lv_sub hl [1, 2, 3, 4, 5, 6, 0] rfl)
      · have h := h.2 c9
        refine lv_goto (tgt := 160) hx hb dX8_whoServes_130 (by decide) ?_
        exact w_X8_whoServes_160 X K19 _ _ _ _ _ _ _ _ _ _ h hp (lv_sub hl [1, 2, 3, 4, 5, 6, 0] rfl)
def wp_X8_whoServes_78 (Q : Int32 → II → Prop) (k19 : Int32 → Int32 → Int32 → Int32 → Int32 → II → Prop) (x1 : Int32) (x2 : Int32) (x3 : Int32) (x4 : Int32) (x5 : Int32) (I : II) : Prop := (wp_X8_whoServes_79 Q k19 x1 x2 x3 x4 x5 (nI 0) I)
set_option maxHeartbeats 4000000 in
set_option maxRecDepth 100000 in
theorem w_X8_whoServes_78 {E : EE} {p : Program} {l : Launch} {e : Env} {s : State} {m : MethodId} {args : Array Value} {below : List Frame} {meth : Method} {c : Code} {Q : Int32 → II → Prop} {k19 : Int32 → Int32 → Int32 → Int32 → Int32 → II → Prop} (X : CX E p s m args meth c cX8_whoServes 8 (some .int) RX8) (K19 : ∀ (x1 : Int32) (x2 : Int32) (x3 : Int32) (x4 : Int32) (x5 : Int32) (I : II) (H : Heap) (locs : List Loc) (ls : Array Slot), k19 x1 x2 x3 x4 x5 I → PP E s H locs I → lv_has ls 8 [(0, .ref (E.2.1 315)), (1, .int x1), (2, .int x2), (3, .int x3), (4, .int x4), (5, .int x5)] → W p l e rmX8_whoServes s m args below meth c H locs 0 0 (MQ below (va_Qi Q (BU E) E.2.2.2.1) args s 0 0 E.2.2.2.1) (F0 m 19 ls [])) : ∀ (x1 : Int32) (x2 : Int32) (x3 : Int32) (x4 : Int32) (x5 : Int32) (I : II) (H : Heap) (locs : List Loc) (ls : Array Slot), wp_X8_whoServes_78 Q k19 x1 x2 x3 x4 x5 I → PP E s H locs I → lv_has ls 8 [(0, .ref (E.2.1 315)), (1, .int x1), (2, .int x2), (3, .int x3), (4, .int x4), (5, .int x5)] → W p l e rmX8_whoServes s m args below meth c H locs 0 0 (MQ below (va_Qi Q (BU E) E.2.2.2.1) args s 0 0 E.2.2.2.1) (F0 m 78 ls []) := by
  obtain ⟨⟨hx, hb, hml, hown, hts⟩, hr, hlk, hK, hST, hN⟩ := id X
  intro x1 x2 x3 x4 x5 I H locs ls h hp hl
  unfold wp_X8_whoServes_78 at h
  refine lv_iconst (v := (nI 0)) hx hb dX8_whoServes_78 (by decide) ?_
  exact w_X8_whoServes_79 X K19 _ _ _ _ _ _ _ _ _ _ h hp (lv_sub hl [0, 1, 2, 3, 4, 5] rfl)
def wp_X8_whoServes_74 (Q : Int32 → II → Prop) (k19 : Int32 → Int32 → Int32 → Int32 → Int32 → II → Prop) (x1 : Int32) (x2 : Int32) (x3 : Int32) (x4 : Int32) (x5 : Int32) (I : II) : Prop := (wp_X8_whoServes_79 Q k19 x1 x2 x3 x4 x5 (nI 1) I)
set_option maxHeartbeats 4000000 in
set_option maxRecDepth 100000 in
theorem w_X8_whoServes_74 {E : EE} {p : Program} {l : Launch} {e : Env} {s : State} {m : MethodId} {args : Array Value} {below : List Frame} {meth : Method} {c : Code} {Q : Int32 → II → Prop} {k19 : Int32 → Int32 → Int32 → Int32 → Int32 → II → Prop} (X : CX E p s m args meth c cX8_whoServes 8 (some .int) RX8) (K19 : ∀ (x1 : Int32) (x2 : Int32) (x3 : Int32) (x4 : Int32) (x5 : Int32) (I : II) (H : Heap) (locs : List Loc) (ls : Array Slot), k19 x1 x2 x3 x4 x5 I → PP E s H locs I → lv_has ls 8 [(0, .ref (E.2.1 315)), (1, .int x1), (2, .int x2), (3, .int x3), (4, .int x4), (5, .int x5)] → W p l e rmX8_whoServes s m args below meth c H locs 0 0 (MQ below (va_Qi Q (BU E) E.2.2.2.1) args s 0 0 E.2.2.2.1) (F0 m 19 ls [])) : ∀ (x1 : Int32) (x2 : Int32) (x3 : Int32) (x4 : Int32) (x5 : Int32) (I : II) (H : Heap) (locs : List Loc) (ls : Array Slot), wp_X8_whoServes_74 Q k19 x1 x2 x3 x4 x5 I → PP E s H locs I → lv_has ls 8 [(0, .ref (E.2.1 315)), (1, .int x1), (2, .int x2), (3, .int x3), (4, .int x4), (5, .int x5)] → W p l e rmX8_whoServes s m args below meth c H locs 0 0 (MQ below (va_Qi Q (BU E) E.2.2.2.1) args s 0 0 E.2.2.2.1) (F0 m 74 ls []) := by
  obtain ⟨⟨hx, hb, hml, hown, hts⟩, hr, hlk, hK, hST, hN⟩ := id X
  intro x1 x2 x3 x4 x5 I H locs ls h hp hl
  unfold wp_X8_whoServes_74 at h
  refine lv_iconst (v := (nI 1)) hx hb dX8_whoServes_74 (by decide) ?_
  refine lv_goto (tgt := 79) hx hb dX8_whoServes_75 (by decide) ?_
  exact w_X8_whoServes_79 X K19 _ _ _ _ _ _ _ _ _ _ h hp (lv_sub hl [0, 1, 2, 3, 4, 5] rfl)
def wp_X8_whoServes_19 (Q : Int32 → II → Prop) (k192 : Int32 → II → Prop) : Nat → Int32 → Int32 → Int32 → Int32 → Int32 → II → Prop
  | 0, _, _, _, _, _, _ => False
  | n + 1, x1, x2, x3, x4, x5, I => (vp_in (x1 + (nI 0)) 1372 ∧ (((I 316 (x1 + (nI 0)).toNatClampNeg) ≤ x5 → (k192 x4 I)) ∧ (¬ (I 316 (x1 + (nI 0)).toNatClampNeg) ≤ x5 → (vp_in (x1 + (nI 6)) 1372 ∧ (wp_X8_has (I 316 (x1 + (nI 6)).toNatClampNeg) x5 I (fun r5 I4 => ((r5 = 0 → (wp_X8_whoServes_78 Q (fun x1 x2 x3 x4 x5 I => wp_X8_whoServes_19 Q k192 n x1 x2 x3 x4 x5 I) x1 x2 x3 x4 x5 I4)) ∧ (¬ r5 = 0 → (vp_in ((x1 + (nI 22)) + x2) 1372 ∧ (((I4 316 ((x1 + (nI 22)) + x2).toNatClampNeg) = 0 → (wp_X8_whoServes_74 Q (fun x1 x2 x3 x4 x5 I => wp_X8_whoServes_19 Q k192 n x1 x2 x3 x4 x5 I) x1 x2 x3 x4 x5 I4)) ∧ (¬ (I4 316 ((x1 + (nI 22)) + x2).toNatClampNeg) = 0 → (wp_X8_mayPay x1 x5 x3 I4 (fun r10 I9 => ((r10 = 0 → (wp_X8_whoServes_78 Q (fun x1 x2 x3 x4 x5 I => wp_X8_whoServes_19 Q k192 n x1 x2 x3 x4 x5 I) x1 x2 x3 x4 x5 I9)) ∧ (¬ r10 = 0 → (wp_X8_whoServes_74 Q (fun x1 x2 x3 x4 x5 I => wp_X8_whoServes_19 Q k192 n x1 x2 x3 x4 x5 I) x1 x2 x3 x4 x5 I9))))))))))))))))
set_option maxHeartbeats 4000000 in
set_option maxRecDepth 100000 in
theorem w_X8_whoServes_19 {E : EE} {p : Program} {l : Launch} {e : Env} {s : State} {m : MethodId} {args : Array Value} {below : List Frame} {meth : Method} {c : Code} {Q : Int32 → II → Prop} {k192 : Int32 → II → Prop} (X : CX E p s m args meth c cX8_whoServes 8 (some .int) RX8) (K192 : ∀ (x4 : Int32) (I : II) (H : Heap) (locs : List Loc) (ls : Array Slot), k192 x4 I → PP E s H locs I → lv_has ls 8 [(4, .int x4)] → W p l e rmX8_whoServes s m args below meth c H locs 0 0 (MQ below (va_Qi Q (BU E) E.2.2.2.1) args s 0 0 E.2.2.2.1) (F0 m 192 ls [])) : ∀ (n : Nat) (x1 : Int32) (x2 : Int32) (x3 : Int32) (x4 : Int32) (x5 : Int32) (I : II) (H : Heap) (locs : List Loc) (ls : Array Slot), wp_X8_whoServes_19 Q k192 n x1 x2 x3 x4 x5 I → PP E s H locs I → lv_has ls 8 [(0, .ref (E.2.1 315)), (1, .int x1), (2, .int x2), (3, .int x3), (4, .int x4), (5, .int x5)] → W p l e rmX8_whoServes s m args below meth c H locs 0 0 (MQ below (va_Qi Q (BU E) E.2.2.2.1) args s 0 0 E.2.2.2.1) (F0 m 19 ls []) := by
  obtain ⟨⟨hx, hb, hml, hown, hts⟩, hr, hlk, hK, hST, hN⟩ := id X
  intro n
  induction n with
  | zero =>
    intro x1 x2 x3 x4 x5 I H locs ls h hp hl
    exact False.elim h
  | succ n ih =>
    intro x1 x2 x3 x4 x5 I H locs ls h hp hl
    rw [wp_X8_whoServes_19.eq_2] at h
    refine lv_iload hx hb dX8_whoServes_19 (lv_at hl 5 rfl) ?_
    refine lv_aload_n hx hb dX8_whoServes_21 rfl (lv_at hl 0 rfl) ?_
    refine f_X8_7 X hp dX8_whoServes_22 ?_
    refine lv_iload_n hx hb dX8_whoServes_25 rfl (lv_at hl 1 rfl) ?_
    refine lv_iconst (v := (nI 0)) hx hb dX8_whoServes_26 (by decide) ?_
    refine lv_iadd hx hb dX8_whoServes_27 ?_
    have hv1 := h.1
    have h := h.2
    refine al_i X hp ar_s316 hv1 dX8_whoServes_28 ?_
    refine lv_icmp_ge (tgt := 192) hx hb dX8_whoServes_29 (by decide) (fun c2 => ?_) (fun c2 => ?_)
    · have h := h.1 c2
      exact K192 _ _ _ _ _ h hp (lv_sub hl [4] rfl)
    · have h := h.2 c2
      refine lv_aload_n hx hb dX8_whoServes_32 rfl (lv_at hl 0 rfl) ?_
      refine f_X8_7 X hp dX8_whoServes_33 ?_
      refine lv_iload_n hx hb dX8_whoServes_36 rfl (lv_at hl 1 rfl) ?_
      refine lv_bipush (v := (nI 6)) hx hb dX8_whoServes_37 (by decide) ?_
      refine lv_iadd hx hb dX8_whoServes_39 ?_
      have hv3 := h.1
      have h := h.2
      refine al_i X hp ar_s316 hv3 dX8_whoServes_40 ?_
      refine lv_iload hx hb dX8_whoServes_41 (lv_at hl 5 rfl) ?_
      refine ki (kS (As := [.int (I 316 (x1 + (nI 6)).toNatClampNeg), .int x5]) (rest := []) X hp (C_X8_has  h) tw_ml_X8_150 sf_X8_has ⟨rfl, rfl, Nat.le_of_ble_eq_true rfl, Nat.le_of_ble_eq_true rfl⟩ rfl hl.1 rfl (Nat.le_of_ble_eq_true rfl) dX8_whoServes_43) hp (fun r5 I4 H locs h hp => ?_)
      refine lv_if_eq (tgt := 78) hx hb dX8_whoServes_46 (by decide) (fun c6 => ?_) (fun c6 => ?_)
      · have h := h.1 c6
        exact w_X8_whoServes_78 X ih _ _ _ _ _ _ _ _ _ h hp (lv_sub hl [0, 1, 2, 3, 4, 5] rfl)
      · have h := h.2 c6
        refine lv_aload_n hx hb dX8_whoServes_49 rfl (lv_at hl 0 rfl) ?_
        refine f_X8_7 X hp dX8_whoServes_50 ?_
        refine lv_iload_n hx hb dX8_whoServes_53 rfl (lv_at hl 1 rfl) ?_
        refine lv_bipush (v := (nI 22)) hx hb dX8_whoServes_54 (by decide) ?_
        refine lv_iadd hx hb dX8_whoServes_56 ?_
        refine lv_iload_n hx hb dX8_whoServes_57 rfl (lv_at hl 2 rfl) ?_
        refine lv_iadd hx hb dX8_whoServes_58 ?_
        have hv7 := h.1
        have h := h.2
        refine al_i X hp ar_s316 hv7 dX8_whoServes_59 ?_
        refine lv_if_eq (tgt := 74) hx hb dX8_whoServes_60 (by decide) (fun c8 => ?_) (fun c8 => ?_)
        · have h := h.1 c8
          exact w_X8_whoServes_74 X ih _ _ _ _ _ _ _ _ _ h hp (lv_sub hl [0, 1, 2, 3, 4, 5] rfl)
        · have h := h.2 c8
          refine lv_aload_n hx hb dX8_whoServes_63 rfl (lv_at hl 0 rfl) ?_
          refine lv_iload_n hx hb dX8_whoServes_64 rfl (lv_at hl 1 rfl) ?_
          refine lv_iload hx hb dX8_whoServes_65 (lv_at hl 5 rfl) ?_
          refine lv_iload_n hx hb dX8_whoServes_67 rfl (lv_at hl 3 rfl) ?_
          refine ki (kV (As := [.int x1, .int x5, .int x3]) (rest := []) X hp (C_X8_mayPay  h) tw_ml_X8_153 vf_X8_mayPay ⟨rfl, rfl, Nat.le_of_ble_eq_true rfl, Nat.le_of_ble_eq_true rfl⟩ (pr_rcv X hp (k := 315) (by decide) (ob_315 _) (q := (RX8, TX8, 18)) rfl) rfl hl.1 rfl (Nat.le_of_ble_eq_true rfl) dX8_whoServes_68) hp (fun r10 I9 H locs h hp => ?_)
          refine lv_if_eq (tgt := 78) hx hb dX8_whoServes_71 (by decide) (fun c11 => ?_) (fun c11 => ?_)
          · have h := h.1 c11
            exact w_X8_whoServes_78 X ih _ _ _ _ _ _ _ _ _ h hp (lv_sub hl [0, 1, 2, 3, 4, 5] rfl)
          · have h := h.2 c11
            exact w_X8_whoServes_74 X ih _ _ _ _ _ _ _ _ _ h hp (lv_sub hl [0, 1, 2, 3, 4, 5] rfl)
def wp_X8_whoServes (x1 : Int32) (x2 : Int32) (I : II) (Q : Int32 → II → Prop) : Prop := (vp_in ((x1 + (nI 15)) + x2) 1372 ∧ (∃ n52, wp_X8_whoServes_19 Q (fun x4 I => (Q x4 I)) n52 x1 x2 (I 316 ((x1 + (nI 15)) + x2).toNatClampNeg) (-nI 1000000) (nI 0) I))
set_option maxHeartbeats 4000000 in
set_option maxRecDepth 100000 in
theorem w_X8_whoServes_0 {E : EE} {p : Program} {l : Launch} {e : Env} {s : State} {m : MethodId} {args : Array Value} {below : List Frame} {meth : Method} {c : Code} {Q : Int32 → II → Prop} (X : CX E p s m args meth c cX8_whoServes 8 (some .int) RX8) : ∀ (x1 : Int32) (x2 : Int32) (I : II) (H : Heap) (locs : List Loc) (ls : Array Slot), wp_X8_whoServes x1 x2 I Q → PP E s H locs I → lv_has ls 8 [(0, .ref (E.2.1 315)), (1, .int x1), (2, .int x2)] → W p l e rmX8_whoServes s m args below meth c H locs 0 0 (MQ below (va_Qi Q (BU E) E.2.2.2.1) args s 0 0 E.2.2.2.1) (F0 m 0 ls []) := by
  obtain ⟨⟨hx, hb, hml, hown, hts⟩, hr, hlk, hK, hST, hN⟩ := id X
  intro x1 x2 I H locs ls h hp hl
  unfold wp_X8_whoServes at h
  refine lv_aload_n hx hb dX8_whoServes_0 rfl (lv_at hl 0 rfl) ?_
  refine f_X8_7 X hp dX8_whoServes_1 ?_
  refine lv_iload_n hx hb dX8_whoServes_4 rfl (lv_at hl 1 rfl) ?_
  refine lv_bipush (v := (nI 15)) hx hb dX8_whoServes_5 (by decide) ?_
  refine lv_iadd hx hb dX8_whoServes_7 ?_
  refine lv_iload_n hx hb dX8_whoServes_8 rfl (lv_at hl 2 rfl) ?_
  refine lv_iadd hx hb dX8_whoServes_9 ?_
  have hv1 := h.1
  have h := h.2
  refine al_i X hp ar_s316 hv1 dX8_whoServes_10 ?_
  refine lv_istore_n (lv' := [(3, .int (I 316 ((x1 + (nI 15)) + x2).toNatClampNeg)), (0, .ref (E.2.1 315)), (1, .int x1), (2, .int x2)]) hx hb dX8_whoServes_11 rfl hl (by decide) rfl (fun ls hl => ?_)
  refine lv_ldc (v := (-nI 1000000)) hx hb hown (hts _ tw_k_X8_149) dX8_whoServes_12 ?_
  refine lv_istore (lv' := [(4, .int (-nI 1000000)), (3, .int (I 316 ((x1 + (nI 15)) + x2).toNatClampNeg)), (0, .ref (E.2.1 315)), (1, .int x1), (2, .int x2)]) hx hb dX8_whoServes_14 hl (by decide) rfl (fun ls hl => ?_)
  refine lv_iconst (v := (nI 0)) hx hb dX8_whoServes_16 (by decide) ?_
  refine lv_istore (lv' := [(5, .int (nI 0)), (4, .int (-nI 1000000)), (3, .int (I 316 ((x1 + (nI 15)) + x2).toNatClampNeg)), (0, .ref (E.2.1 315)), (1, .int x1), (2, .int x2)]) hx hb dX8_whoServes_17 hl (by decide) rfl (fun ls hl => ?_)
  obtain ⟨n52, h⟩ := h
  refine w_X8_whoServes_19 X ?_ n52 _ _ _ _ _ _ _ _ _ h hp (lv_sub hl [3, 4, 5, 2, 1, 0] rfl)
  · intro x4 I H locs ls h hp hl
    refine lv_iload hx hb dX8_whoServes_192 (lv_at hl 0 rfl) ?_
    exact rt_i X hp h dX8_whoServes_194
set_option maxRecDepth 100000 in
theorem C_X8_whoServes {E : EE} {l : Launch} {x1 : Int32} {x2 : Int32} {I : II} {Q : Int32 → II → Prop} (h : wp_X8_whoServes x1 x2 I Q) : Met l yX8_whoServes (Cond.code yX8_whoServes cX8_whoServes 8 (some .int) :: lwT) rmX8_whoServes (va_Pc [.ref (E.2.1 315), .int x1, .int x2] (PU E I)) (va_Qi Q (BU E) E.2.2.2.1) 0 0 E.2.2.2.1 :=
  ofWalk [.ref (E.2.1 315), .int x1, .int x2] (by decide) tw_c_X8_whoServes (Nat.le_of_ble_eq_true rfl) (fun p e s m below meth c ls X hp hl => w_X8_whoServes_0 X _ _ _ _ _ _ h hp hl)
abbrev rmX8_takeFrom : Room := { frames := 1, cells := 0, slots := 0, locals := 24 }
theorem vf_X8_takeFrom : VF yX8_takeFrom RX8 cX8_takeFrom 6 none 3 := ⟨tw_in_X8, tw_im_X8_takeFrom, tw_se_X8_takeFrom, tw_c_X8_takeFrom, by decide, by decide, by decide +kernel⟩
def wp_X8_takeFrom_53 (Q : II → Prop) (x1 : Int32) (x2 : Int32) (v0 : Int32) (v1 : Int32) (I : II) : Prop := (((v1 + v0) ≤ (nI 99) → (vp_in ((x1 + (nI 41)) + x2) 1372 ∧ ∀ I3 : II, I3 = su I 316 ((x1 + (nI 41)) + x2).toNatClampNeg (v1 + v0) → (Q I3))) ∧ (¬ (v1 + v0) ≤ (nI 99) → (vp_in ((x1 + (nI 41)) + x2) 1372 ∧ ∀ I6 : II, I6 = su I 316 ((x1 + (nI 41)) + x2).toNatClampNeg (nI 99) → (Q I6))))
set_option maxHeartbeats 4000000 in
set_option maxRecDepth 100000 in
theorem w_X8_takeFrom_53 {E : EE} {p : Program} {l : Launch} {e : Env} {s : State} {m : MethodId} {args : Array Value} {below : List Frame} {meth : Method} {c : Code} {Q : II → Prop} (X : CX E p s m args meth c cX8_takeFrom 6 none RX8) : ∀ (x1 : Int32) (x2 : Int32) (v0 : Int32) (v1 : Int32) (I : II) (H : Heap) (locs : List Loc) (ls : Array Slot), wp_X8_takeFrom_53 Q x1 x2 v0 v1 I → PP E s H locs I → lv_has ls 6 [(0, .ref (E.2.1 315)), (1, .int x1), (2, .int x2)] → W p l e rmX8_takeFrom s m args below meth c H locs 0 0 (MQ below (va_Qv Q (BU E) E.2.2.2.1) args s 0 0 E.2.2.2.1) (F0 m 53 ls [.int v0, .int v1]) := by
  obtain ⟨⟨hx, hb, hml, hown, hts⟩, hr, hlk, hK, hST, hN⟩ := id X
  intro x1 x2 v0 v1 I H locs ls h hp hl
  unfold wp_X8_takeFrom_53 at h
  refine lv_iadd hx hb dX8_takeFrom_53 ?_
  refine lv_istore (lv' := [(5, .int (v1 + v0)), (0, .ref (E.2.1 315)), (1, .int x1), (2, .int x2)]) hx hb dX8_takeFrom_54 hl (by decide) rfl (fun ls hl => ?_)
  refine lv_aload_n hx hb dX8_takeFrom_56 rfl (lv_at hl 1 rfl) ?_
  refine f_X8_7 X hp dX8_takeFrom_57 ?_
  refine lv_iload_n hx hb dX8_takeFrom_60 rfl (lv_at hl 2 rfl) ?_
  refine lv_bipush (v := (nI 41)) hx hb dX8_takeFrom_61 (by decide) ?_
  refine lv_iadd hx hb dX8_takeFrom_63 ?_
  refine lv_iload_n hx hb dX8_takeFrom_64 rfl (lv_at hl 3 rfl) ?_
  refine lv_iadd hx hb dX8_takeFrom_65 ?_
  refine lv_iload hx hb dX8_takeFrom_66 (lv_at hl 0 rfl) ?_
  refine lv_bipush (v := (nI 99)) hx hb dX8_takeFrom_68 (by decide) ?_
  refine lv_icmp_le (tgt := 78) hx hb dX8_takeFrom_70 (by decide) (fun c1 => ?_) (fun c1 => ?_)
  · have h := h.1 c1
    refine lv_iload hx hb dX8_takeFrom_78 (lv_at hl 0 rfl) ?_
    have hv2 := h.1
    have h := h.2
    refine as_i X hp ar_s316 hv2 dX8_takeFrom_80 (fun H locs hp => ?_)
    obtain ⟨I3, e4⟩ : ∃ y, y = su I 316 ((x1 + (nI 41)) + x2).toNatClampNeg (v1 + v0) := ⟨_, rfl⟩
    have hp : PP E s H locs I3 := by rw [e4]; exact hp
    have h := h I3 e4
    exact rt_v X hp h dX8_takeFrom_81
  · have h := h.2 c1
    refine lv_bipush (v := (nI 99)) hx hb dX8_takeFrom_73 (by decide) ?_
    refine lv_goto (tgt := 80) hx hb dX8_takeFrom_75 (by decide) ?_
    have hv5 := h.1
    have h := h.2
    refine as_i X hp ar_s316 hv5 dX8_takeFrom_80 (fun H locs hp => ?_)
    obtain ⟨I6, e7⟩ : ∃ y, y = su I 316 ((x1 + (nI 41)) + x2).toNatClampNeg (nI 99) := ⟨_, rfl⟩
    have hp : PP E s H locs I6 := by rw [e7]; exact hp
    have h := h I6 e7
    exact rt_v X hp h dX8_takeFrom_81
def wp_X8_takeFrom (x1 : Int32) (x2 : Int32) (x3 : Int32) (I : II) (Q : II → Prop) : Prop := (vp_in ((x1 + (nI 15)) + x3) 1372 ∧ (vp_in ((x1 + (nI 41)) + x2) 1372 ∧ (vp_in ((x1 + (nI 22)) + x3) 1372 ∧ ((¬ (I 316 ((x1 + (nI 22)) + x3).toNatClampNeg) = (nI 1) → (wp_X8_takeFrom_53 Q x1 x2 (I 316 ((x1 + (nI 15)) + x3).toNatClampNeg) (I 316 ((x1 + (nI 41)) + x2).toNatClampNeg) I)) ∧ ((I 316 ((x1 + (nI 22)) + x3).toNatClampNeg) = (nI 1) → (wp_X8_costOf x1 x2 (I 316 ((x1 + (nI 15)) + x3).toNatClampNeg) I (fun r6 I5 => (wp_X8_takeFrom_53 Q x1 x2 (-r6) (I 316 ((x1 + (nI 41)) + x2).toNatClampNeg) I5))))))))
set_option maxHeartbeats 4000000 in
set_option maxRecDepth 100000 in
theorem w_X8_takeFrom_0 {E : EE} {p : Program} {l : Launch} {e : Env} {s : State} {m : MethodId} {args : Array Value} {below : List Frame} {meth : Method} {c : Code} {Q : II → Prop} (X : CX E p s m args meth c cX8_takeFrom 6 none RX8) : ∀ (x1 : Int32) (x2 : Int32) (x3 : Int32) (I : II) (H : Heap) (locs : List Loc) (ls : Array Slot), wp_X8_takeFrom x1 x2 x3 I Q → PP E s H locs I → lv_has ls 6 [(0, .ref (E.2.1 315)), (1, .int x1), (2, .int x2), (3, .int x3)] → W p l e rmX8_takeFrom s m args below meth c H locs 0 0 (MQ below (va_Qv Q (BU E) E.2.2.2.1) args s 0 0 E.2.2.2.1) (F0 m 0 ls []) := by
  obtain ⟨⟨hx, hb, hml, hown, hts⟩, hr, hlk, hK, hST, hN⟩ := id X
  intro x1 x2 x3 I H locs ls h hp hl
  unfold wp_X8_takeFrom at h
  refine lv_aload_n hx hb dX8_takeFrom_0 rfl (lv_at hl 0 rfl) ?_
  refine f_X8_7 X hp dX8_takeFrom_1 ?_
  refine lv_iload_n hx hb dX8_takeFrom_4 rfl (lv_at hl 1 rfl) ?_
  refine lv_bipush (v := (nI 15)) hx hb dX8_takeFrom_5 (by decide) ?_
  refine lv_iadd hx hb dX8_takeFrom_7 ?_
  refine lv_iload_n hx hb dX8_takeFrom_8 rfl (lv_at hl 3 rfl) ?_
  refine lv_iadd hx hb dX8_takeFrom_9 ?_
  have hv1 := h.1
  have h := h.2
  refine al_i X hp ar_s316 hv1 dX8_takeFrom_10 ?_
  refine lv_istore (lv' := [(4, .int (I 316 ((x1 + (nI 15)) + x3).toNatClampNeg)), (0, .ref (E.2.1 315)), (1, .int x1), (2, .int x2), (3, .int x3)]) hx hb dX8_takeFrom_11 hl (by decide) rfl (fun ls hl => ?_)
  refine lv_aload_n hx hb dX8_takeFrom_13 rfl (lv_at hl 1 rfl) ?_
  refine f_X8_7 X hp dX8_takeFrom_14 ?_
  refine lv_iload_n hx hb dX8_takeFrom_17 rfl (lv_at hl 2 rfl) ?_
  refine lv_bipush (v := (nI 41)) hx hb dX8_takeFrom_18 (by decide) ?_
  refine lv_iadd hx hb dX8_takeFrom_20 ?_
  refine lv_iload_n hx hb dX8_takeFrom_21 rfl (lv_at hl 3 rfl) ?_
  refine lv_iadd hx hb dX8_takeFrom_22 ?_
  have hv2 := h.1
  have h := h.2
  refine al_i X hp ar_s316 hv2 dX8_takeFrom_23 ?_
  refine lv_aload_n hx hb dX8_takeFrom_24 rfl (lv_at hl 1 rfl) ?_
  refine f_X8_7 X hp dX8_takeFrom_25 ?_
  refine lv_iload_n hx hb dX8_takeFrom_28 rfl (lv_at hl 2 rfl) ?_
  refine lv_bipush (v := (nI 22)) hx hb dX8_takeFrom_29 (by decide) ?_
  refine lv_iadd hx hb dX8_takeFrom_31 ?_
  refine lv_iload_n hx hb dX8_takeFrom_32 rfl (lv_at hl 4 rfl) ?_
  refine lv_iadd hx hb dX8_takeFrom_33 ?_
  have hv3 := h.1
  have h := h.2
  refine al_i X hp ar_s316 hv3 dX8_takeFrom_34 ?_
  refine lv_iconst (v := (nI 1)) hx hb dX8_takeFrom_35 (by decide) ?_
  refine lv_icmp_ne (tgt := 51) hx hb dX8_takeFrom_36 (by decide) (fun c4 => ?_) (fun c4 => ?_)
  · have h := h.1 c4
    refine lv_iload hx hb dX8_takeFrom_51 (lv_at hl 0 rfl) ?_
    exact w_X8_takeFrom_53 X  _ _ _ _ _ _ _ _ h hp (lv_sub hl [1, 2, 3] rfl)
  · have h := h.2 c4
    refine lv_aload_n hx hb dX8_takeFrom_39 rfl (lv_at hl 1 rfl) ?_
    refine lv_iload_n hx hb dX8_takeFrom_40 rfl (lv_at hl 2 rfl) ?_
    refine lv_iload_n hx hb dX8_takeFrom_41 rfl (lv_at hl 3 rfl) ?_
    refine lv_iload hx hb dX8_takeFrom_42 (lv_at hl 0 rfl) ?_
    refine ki (kV (As := [.int x1, .int x2, .int (I 316 ((x1 + (nI 15)) + x3).toNatClampNeg)]) (rest := [.int (I 316 ((x1 + (nI 41)) + x2).toNatClampNeg)]) X hp (C_X8_costOf  h) tw_ml_X8_145 vf_X8_costOf ⟨rfl, rfl, Nat.le_of_ble_eq_true rfl, Nat.le_of_ble_eq_true rfl⟩ (pr_rcv X hp (k := 315) (by decide) (ob_315 _) (q := (RX8, TX8, 18)) rfl) rfl hl.1 rfl (Nat.le_of_ble_eq_true rfl) dX8_takeFrom_44) hp (fun r6 I5 H locs h hp => ?_)
    refine lv_ineg hx hb dX8_takeFrom_47 ?_
    refine lv_goto (tgt := 53) hx hb dX8_takeFrom_48 (by decide) ?_
    exact w_X8_takeFrom_53 X  _ _ _ _ _ _ _ _ h hp (lv_sub hl [1, 2, 3] rfl)
set_option maxRecDepth 100000 in
theorem C_X8_takeFrom {E : EE} {l : Launch} {x1 : Int32} {x2 : Int32} {x3 : Int32} {I : II} {Q : II → Prop} (h : wp_X8_takeFrom x1 x2 x3 I Q) : Met l yX8_takeFrom (Cond.code yX8_takeFrom cX8_takeFrom 6 none :: lwT) rmX8_takeFrom (va_Pc [.ref (E.2.1 315), .int x1, .int x2, .int x3] (PU E I)) (va_Qv Q (BU E) E.2.2.2.1) 0 0 E.2.2.2.1 :=
  ofWalk [.ref (E.2.1 315), .int x1, .int x2, .int x3] (by decide) tw_c_X8_takeFrom (Nat.le_of_ble_eq_true rfl) (fun p e s m below meth c ls X hp hl => w_X8_takeFrom_0 X _ _ _ _ _ _ _ h hp hl)
abbrev rmX8_leaveFirst : Room := { frames := 0, cells := 0, slots := 0, locals := 0 }
theorem vf_X8_leaveFirst : VF yX8_leaveFirst RX8 cX8_leaveFirst 3 none 1 := ⟨tw_in_X8, tw_im_X8_leaveFirst, tw_se_X8_leaveFirst, tw_c_X8_leaveFirst, by decide, by decide, by decide +kernel⟩
def wp_X8_leaveFirst_2 (Q : II → Prop) (k45 : Int32 → II → Prop) : Nat → Int32 → Int32 → II → Prop
  | 0, _, _, _ => False
  | n + 1, x1, x2, I => (vp_in (x1 + (nI 7)) 1372 ∧ (((I 316 (x1 + (nI 7)).toNatClampNeg) ≤ x2 → (k45 x1 I)) ∧ (¬ (I 316 (x1 + (nI 7)).toNatClampNeg) ≤ x2 → (vp_in ((x1 + (nI 8)) + x2) 1372 ∧ (vp_in (((x1 + (nI 8)) + x2) - (nI 1)) 1372 ∧ ∀ I5 : II, I5 = su I 316 (((x1 + (nI 8)) + x2) - (nI 1)).toNatClampNeg (I 316 ((x1 + (nI 8)) + x2).toNatClampNeg) → (wp_X8_leaveFirst_2 Q k45 n x1 (x2 + (nI 1)) I5))))))
set_option maxHeartbeats 4000000 in
set_option maxRecDepth 100000 in
theorem w_X8_leaveFirst_2 {E : EE} {p : Program} {l : Launch} {e : Env} {s : State} {m : MethodId} {args : Array Value} {below : List Frame} {meth : Method} {c : Code} {Q : II → Prop} {k45 : Int32 → II → Prop} (X : CX E p s m args meth c cX8_leaveFirst 3 none RX8) (K45 : ∀ (x1 : Int32) (I : II) (H : Heap) (locs : List Loc) (ls : Array Slot), k45 x1 I → PP E s H locs I → lv_has ls 3 [(0, .ref (E.2.1 315)), (1, .int x1)] → W p l e rmX8_leaveFirst s m args below meth c H locs 0 0 (MQ below (va_Qv Q (BU E) E.2.2.2.1) args s 0 0 E.2.2.2.1) (F0 m 45 ls [])) : ∀ (n : Nat) (x1 : Int32) (x2 : Int32) (I : II) (H : Heap) (locs : List Loc) (ls : Array Slot), wp_X8_leaveFirst_2 Q k45 n x1 x2 I → PP E s H locs I → lv_has ls 3 [(0, .ref (E.2.1 315)), (1, .int x1), (2, .int x2)] → W p l e rmX8_leaveFirst s m args below meth c H locs 0 0 (MQ below (va_Qv Q (BU E) E.2.2.2.1) args s 0 0 E.2.2.2.1) (F0 m 2 ls []) := by
  obtain ⟨⟨hx, hb, hml, hown, hts⟩, hr, hlk, hK, hST, hN⟩ := id X
  intro n
  induction n with
  | zero =>
    intro x1 x2 I H locs ls h hp hl
    exact False.elim h
  | succ n ih =>
    intro x1 x2 I H locs ls h hp hl
    rw [wp_X8_leaveFirst_2.eq_2] at h
    refine lv_iload_n hx hb dX8_leaveFirst_2 rfl (lv_at hl 2 rfl) ?_
    refine lv_aload_n hx hb dX8_leaveFirst_3 rfl (lv_at hl 0 rfl) ?_
    refine f_X8_7 X hp dX8_leaveFirst_4 ?_
    refine lv_iload_n hx hb dX8_leaveFirst_7 rfl (lv_at hl 1 rfl) ?_
    refine lv_bipush (v := (nI 7)) hx hb dX8_leaveFirst_8 (by decide) ?_
    refine lv_iadd hx hb dX8_leaveFirst_10 ?_
    have hv1 := h.1
    have h := h.2
    refine al_i X hp ar_s316 hv1 dX8_leaveFirst_11 ?_
    refine lv_icmp_ge (tgt := 45) hx hb dX8_leaveFirst_12 (by decide) (fun c2 => ?_) (fun c2 => ?_)
    · have h := h.1 c2
      exact K45 _ _ _ _ _ h hp (lv_sub hl [0, 1] rfl)
    · have h := h.2 c2
      refine lv_aload_n hx hb dX8_leaveFirst_15 rfl (lv_at hl 0 rfl) ?_
      refine f_X8_7 X hp dX8_leaveFirst_16 ?_
      refine lv_iload_n hx hb dX8_leaveFirst_19 rfl (lv_at hl 1 rfl) ?_
      refine lv_bipush (v := (nI 8)) hx hb dX8_leaveFirst_20 (by decide) ?_
      refine lv_iadd hx hb dX8_leaveFirst_22 ?_
      refine lv_iload_n hx hb dX8_leaveFirst_23 rfl (lv_at hl 2 rfl) ?_
      refine lv_iadd hx hb dX8_leaveFirst_24 ?_
      refine lv_iconst (v := (nI 1)) hx hb dX8_leaveFirst_25 (by decide) ?_
      refine lv_isub hx hb dX8_leaveFirst_26 ?_
      refine lv_aload_n hx hb dX8_leaveFirst_27 rfl (lv_at hl 0 rfl) ?_
      refine f_X8_7 X hp dX8_leaveFirst_28 ?_
      refine lv_iload_n hx hb dX8_leaveFirst_31 rfl (lv_at hl 1 rfl) ?_
      refine lv_bipush (v := (nI 8)) hx hb dX8_leaveFirst_32 (by decide) ?_
      refine lv_iadd hx hb dX8_leaveFirst_34 ?_
      refine lv_iload_n hx hb dX8_leaveFirst_35 rfl (lv_at hl 2 rfl) ?_
      refine lv_iadd hx hb dX8_leaveFirst_36 ?_
      have hv3 := h.1
      have h := h.2
      refine al_i X hp ar_s316 hv3 dX8_leaveFirst_37 ?_
      have hv4 := h.1
      have h := h.2
      refine as_i X hp ar_s316 hv4 dX8_leaveFirst_38 (fun H locs hp => ?_)
      obtain ⟨I5, e6⟩ : ∃ y, y = su I 316 (((x1 + (nI 8)) + x2) - (nI 1)).toNatClampNeg (I 316 ((x1 + (nI 8)) + x2).toNatClampNeg) := ⟨_, rfl⟩
      have hp : PP E s H locs I5 := by rw [e6]; exact hp
      have h := h I5 e6
      refine lv_iinc (v := (x2 + (nI 1))) (lv' := [(2, .int (x2 + (nI 1))), (0, .ref (E.2.1 315)), (1, .int x1)]) hx hb dX8_leaveFirst_39 hl (k := 2) rfl rfl (by decide) rfl (fun ls hl => ?_)
      refine lv_goto (tgt := 2) hx hb dX8_leaveFirst_42 (by decide) ?_
      exact ih _ _ _ _ _ _ h hp (lv_sub hl [1, 2, 0] rfl)
def wp_X8_leaveFirst (x1 : Int32) (I : II) (Q : II → Prop) : Prop := (∃ n55, wp_X8_leaveFirst_2 Q (fun x1 I => (vp_in (x1 + (nI 7)) 1372 ∧ (vp_in (x1 + (nI 7)) 1372 ∧ ∀ I53 : II, I53 = su I 316 (x1 + (nI 7)).toNatClampNeg ((I 316 (x1 + (nI 7)).toNatClampNeg) - (nI 1)) → (Q I53)))) n55 x1 (nI 1) I)
set_option maxHeartbeats 4000000 in
set_option maxRecDepth 100000 in
theorem w_X8_leaveFirst_0 {E : EE} {p : Program} {l : Launch} {e : Env} {s : State} {m : MethodId} {args : Array Value} {below : List Frame} {meth : Method} {c : Code} {Q : II → Prop} (X : CX E p s m args meth c cX8_leaveFirst 3 none RX8) : ∀ (x1 : Int32) (I : II) (H : Heap) (locs : List Loc) (ls : Array Slot), wp_X8_leaveFirst x1 I Q → PP E s H locs I → lv_has ls 3 [(0, .ref (E.2.1 315)), (1, .int x1)] → W p l e rmX8_leaveFirst s m args below meth c H locs 0 0 (MQ below (va_Qv Q (BU E) E.2.2.2.1) args s 0 0 E.2.2.2.1) (F0 m 0 ls []) := by
  obtain ⟨⟨hx, hb, hml, hown, hts⟩, hr, hlk, hK, hST, hN⟩ := id X
  intro x1 I H locs ls h hp hl
  unfold wp_X8_leaveFirst at h
  refine lv_iconst (v := (nI 1)) hx hb dX8_leaveFirst_0 (by decide) ?_
  refine lv_istore_n (lv' := [(2, .int (nI 1)), (0, .ref (E.2.1 315)), (1, .int x1)]) hx hb dX8_leaveFirst_1 rfl hl (by decide) rfl (fun ls hl => ?_)
  obtain ⟨n55, h⟩ := h
  refine w_X8_leaveFirst_2 X ?_ n55 _ _ _ _ _ _ h hp (lv_sub hl [1, 2, 0] rfl)
  · intro x1 I H locs ls h hp hl
    refine lv_aload_n hx hb dX8_leaveFirst_45 rfl (lv_at hl 0 rfl) ?_
    refine f_X8_7 X hp dX8_leaveFirst_46 ?_
    refine lv_iload_n hx hb dX8_leaveFirst_49 rfl (lv_at hl 1 rfl) ?_
    refine lv_bipush (v := (nI 7)) hx hb dX8_leaveFirst_50 (by decide) ?_
    refine lv_iadd hx hb dX8_leaveFirst_52 ?_
    refine lv_dup2_11 hx hb dX8_leaveFirst_53 rfl rfl ?_
    have hv51 := h.1
    have h := h.2
    refine al_i X hp ar_s316 hv51 dX8_leaveFirst_54 ?_
    refine lv_iconst (v := (nI 1)) hx hb dX8_leaveFirst_55 (by decide) ?_
    refine lv_isub hx hb dX8_leaveFirst_56 ?_
    have hv52 := h.1
    have h := h.2
    refine as_i X hp ar_s316 hv52 dX8_leaveFirst_57 (fun H locs hp => ?_)
    obtain ⟨I53, e54⟩ : ∃ y, y = su I 316 (x1 + (nI 7)).toNatClampNeg ((I 316 (x1 + (nI 7)).toNatClampNeg) - (nI 1)) := ⟨_, rfl⟩
    have hp : PP E s H locs I53 := by rw [e54]; exact hp
    have h := h I53 e54
    exact rt_v X hp h dX8_leaveFirst_58
set_option maxRecDepth 100000 in
theorem C_X8_leaveFirst {E : EE} {l : Launch} {x1 : Int32} {I : II} {Q : II → Prop} (h : wp_X8_leaveFirst x1 I Q) : Met l yX8_leaveFirst (Cond.code yX8_leaveFirst cX8_leaveFirst 3 none :: lwT) rmX8_leaveFirst (va_Pc [.ref (E.2.1 315), .int x1] (PU E I)) (va_Qv Q (BU E) E.2.2.2.1) 0 0 E.2.2.2.1 :=
  ofWalk [.ref (E.2.1 315), .int x1] (by decide) tw_c_X8_leaveFirst (Nat.le_of_ble_eq_true rfl) (fun p e s m below meth c ls X hp hl => w_X8_leaveFirst_0 X _ _ _ _ _ h hp hl)
abbrev rmX8_pass : Room := { frames := 3, cells := 0, slots := 0, locals := 74 }
theorem vf_X8_pass : VF yX8_pass RX8 cX8_pass 4 (some .int) 1 := ⟨tw_in_X8, tw_im_X8_pass, tw_se_X8_pass, tw_c_X8_pass, by decide, by decide, by decide +kernel⟩
def wp_X8_pass_195 (Q : Int32 → II → Prop) (k106 : Int32 → Int32 → Int32 → II → Prop) (x1 : Int32) (x2 : Int32) (x3 : Int32) (v0 : Int32) (v1 : Int32) (v2 : Int32) (I : II) : Prop := (vp_in v2 1372 ∧ ∀ I2 : II, I2 = su I 316 v2.toNatClampNeg (v1 + v0) → (k106 x1 x2 (x3 + (nI 1)) I2))
set_option maxHeartbeats 4000000 in
set_option maxRecDepth 100000 in
theorem w_X8_pass_195 {E : EE} {p : Program} {l : Launch} {e : Env} {s : State} {m : MethodId} {args : Array Value} {below : List Frame} {meth : Method} {c : Code} {Q : Int32 → II → Prop} {k106 : Int32 → Int32 → Int32 → II → Prop} (X : CX E p s m args meth c cX8_pass 4 (some .int) RX8) (K106 : ∀ (x1 : Int32) (x2 : Int32) (x3 : Int32) (I : II) (H : Heap) (locs : List Loc) (ls : Array Slot), k106 x1 x2 x3 I → PP E s H locs I → lv_has ls 4 [(0, .ref (E.2.1 315)), (1, .int x1), (2, .int x2), (3, .int x3)] → W p l e rmX8_pass s m args below meth c H locs 0 0 (MQ below (va_Qi Q (BU E) E.2.2.2.1) args s 0 0 E.2.2.2.1) (F0 m 106 ls [])) : ∀ (x1 : Int32) (x2 : Int32) (x3 : Int32) (v0 : Int32) (v1 : Int32) (v2 : Int32) (I : II) (H : Heap) (locs : List Loc) (ls : Array Slot), wp_X8_pass_195 Q k106 x1 x2 x3 v0 v1 v2 I → PP E s H locs I → lv_has ls 4 [(0, .ref (E.2.1 315)), (1, .int x1), (2, .int x2), (3, .int x3)] → W p l e rmX8_pass s m args below meth c H locs 0 0 (MQ below (va_Qi Q (BU E) E.2.2.2.1) args s 0 0 E.2.2.2.1) (F0 m 195 ls [.int v0, .int v1, .int v2, .ref (E.2.1 316)]) := by
  obtain ⟨⟨hx, hb, hml, hown, hts⟩, hr, hlk, hK, hST, hN⟩ := id X
  intro x1 x2 x3 v0 v1 v2 I H locs ls h hp hl
  unfold wp_X8_pass_195 at h
  refine lv_iadd hx hb dX8_pass_195 ?_
  have hv1 := h.1
  have h := h.2
  refine as_i X hp ar_s316 hv1 dX8_pass_196 (fun H locs hp => ?_)
  obtain ⟨I2, e3⟩ : ∃ y, y = su I 316 v2.toNatClampNeg (v1 + v0) := ⟨_, rfl⟩
  have hp : PP E s H locs I2 := by rw [e3]; exact hp
  have h := h I2 e3
  refine lv_iinc (v := (x3 + (nI 1))) (lv' := [(3, .int (x3 + (nI 1))), (0, .ref (E.2.1 315)), (1, .int x1), (2, .int x2)]) hx hb dX8_pass_197 hl (k := 3) rfl rfl (by decide) rfl (fun ls hl => ?_)
  refine lv_goto (tgt := 106) hx hb dX8_pass_200 (by decide) ?_
  exact K106 _ _ _ _ _ _ _ h hp (lv_sub hl [1, 2, 3, 0] rfl)
def wp_X8_pass_194 (Q : Int32 → II → Prop) (k106 : Int32 → Int32 → Int32 → II → Prop) (x1 : Int32) (x2 : Int32) (x3 : Int32) (v0 : Int32) (v1 : Int32) (I : II) : Prop := (wp_X8_pass_195 Q k106 x1 x2 x3 (nI 0) v0 v1 I)
set_option maxHeartbeats 4000000 in
set_option maxRecDepth 100000 in
theorem w_X8_pass_194 {E : EE} {p : Program} {l : Launch} {e : Env} {s : State} {m : MethodId} {args : Array Value} {below : List Frame} {meth : Method} {c : Code} {Q : Int32 → II → Prop} {k106 : Int32 → Int32 → Int32 → II → Prop} (X : CX E p s m args meth c cX8_pass 4 (some .int) RX8) (K106 : ∀ (x1 : Int32) (x2 : Int32) (x3 : Int32) (I : II) (H : Heap) (locs : List Loc) (ls : Array Slot), k106 x1 x2 x3 I → PP E s H locs I → lv_has ls 4 [(0, .ref (E.2.1 315)), (1, .int x1), (2, .int x2), (3, .int x3)] → W p l e rmX8_pass s m args below meth c H locs 0 0 (MQ below (va_Qi Q (BU E) E.2.2.2.1) args s 0 0 E.2.2.2.1) (F0 m 106 ls [])) : ∀ (x1 : Int32) (x2 : Int32) (x3 : Int32) (v0 : Int32) (v1 : Int32) (I : II) (H : Heap) (locs : List Loc) (ls : Array Slot), wp_X8_pass_194 Q k106 x1 x2 x3 v0 v1 I → PP E s H locs I → lv_has ls 4 [(0, .ref (E.2.1 315)), (1, .int x1), (2, .int x2), (3, .int x3)] → W p l e rmX8_pass s m args below meth c H locs 0 0 (MQ below (va_Qi Q (BU E) E.2.2.2.1) args s 0 0 E.2.2.2.1) (F0 m 194 ls [.int v0, .int v1, .ref (E.2.1 316)]) := by
  obtain ⟨⟨hx, hb, hml, hown, hts⟩, hr, hlk, hK, hST, hN⟩ := id X
  intro x1 x2 x3 v0 v1 I H locs ls h hp hl
  unfold wp_X8_pass_194 at h
  refine lv_iconst (v := (nI 0)) hx hb dX8_pass_194 (by decide) ?_
  exact w_X8_pass_195 X K106 _ _ _ _ _ _ _ _ _ _ h hp (lv_sub hl [0, 1, 2, 3] rfl)
def wp_X8_pass_106 (Q : Int32 → II → Prop) (k203 : Int32 → II → Prop) : Nat → Int32 → Int32 → Int32 → II → Prop
  | 0, _, _, _, _ => False
  | n + 1, x1, x2, x3, I => (vp_in (x1 + (nI 0)) 1372 ∧ (((I 316 (x1 + (nI 0)).toNatClampNeg) ≤ x3 → (k203 x2 I)) ∧ (¬ (I 316 (x1 + (nI 0)).toNatClampNeg) ≤ x3 → (vp_in (x1 + (nI 3)) 1372 ∧ (vp_in (x1 + (nI 2)) 1372 ∧ (¬ (I 316 (x1 + (nI 2)).toNatClampNeg) = 0 ∧ ((¬ ((I 316 (x1 + (nI 3)).toNatClampNeg) - (I 316 (x1 + (nI 3)).toNatClampNeg) / (I 316 (x1 + (nI 2)).toNatClampNeg) * (I 316 (x1 + (nI 2)).toNatClampNeg)) = 0 → (k203 x2 I)) ∧ (((I 316 (x1 + (nI 3)).toNatClampNeg) - (I 316 (x1 + (nI 3)).toNatClampNeg) / (I 316 (x1 + (nI 2)).toNatClampNeg) * (I 316 (x1 + (nI 2)).toNatClampNeg)) = 0 → (vp_in ((x1 + (nI 41)) + x3) 1372 ∧ (vp_in ((x1 + (nI 29)) + x3) 1372 ∧ ((¬ (I 316 ((x1 + (nI 29)) + x3).toNatClampNeg) = (nI 5) → (wp_X8_pass_194 Q (fun x1 x2 x3 I => wp_X8_pass_106 Q k203 n x1 x2 x3 I) x1 x2 x3 (I 316 ((x1 + (nI 41)) + x3).toNatClampNeg) ((x1 + (nI 41)) + x3) I)) ∧ ((I 316 ((x1 + (nI 29)) + x3).toNatClampNeg) = (nI 5) → (vp_in ((x1 + (nI 41)) + x3) 1372 ∧ (vp_in ((x1 + (nI 33)) + x3) 1372 ∧ (((I 316 ((x1 + (nI 33)) + x3).toNatClampNeg) ≤ (I 316 ((x1 + (nI 41)) + x3).toNatClampNeg) → (wp_X8_pass_194 Q (fun x1 x2 x3 I => wp_X8_pass_106 Q k203 n x1 x2 x3 I) x1 x2 x3 (I 316 ((x1 + (nI 41)) + x3).toNatClampNeg) ((x1 + (nI 41)) + x3) I)) ∧ (¬ (I 316 ((x1 + (nI 33)) + x3).toNatClampNeg) ≤ (I 316 ((x1 + (nI 41)) + x3).toNatClampNeg) → (wp_X8_pass_195 Q (fun x1 x2 x3 I => wp_X8_pass_106 Q k203 n x1 x2 x3 I) x1 x2 x3 (nI 1) (I 316 ((x1 + (nI 41)) + x3).toNatClampNeg) ((x1 + (nI 41)) + x3) I)))))))))))))))))
set_option maxHeartbeats 4000000 in
set_option maxRecDepth 100000 in
theorem w_X8_pass_106 {E : EE} {p : Program} {l : Launch} {e : Env} {s : State} {m : MethodId} {args : Array Value} {below : List Frame} {meth : Method} {c : Code} {Q : Int32 → II → Prop} {k203 : Int32 → II → Prop} (X : CX E p s m args meth c cX8_pass 4 (some .int) RX8) (K203 : ∀ (x2 : Int32) (I : II) (H : Heap) (locs : List Loc) (ls : Array Slot), k203 x2 I → PP E s H locs I → lv_has ls 4 [(2, .int x2)] → W p l e rmX8_pass s m args below meth c H locs 0 0 (MQ below (va_Qi Q (BU E) E.2.2.2.1) args s 0 0 E.2.2.2.1) (F0 m 203 ls [])) : ∀ (n : Nat) (x1 : Int32) (x2 : Int32) (x3 : Int32) (I : II) (H : Heap) (locs : List Loc) (ls : Array Slot), wp_X8_pass_106 Q k203 n x1 x2 x3 I → PP E s H locs I → lv_has ls 4 [(0, .ref (E.2.1 315)), (1, .int x1), (2, .int x2), (3, .int x3)] → W p l e rmX8_pass s m args below meth c H locs 0 0 (MQ below (va_Qi Q (BU E) E.2.2.2.1) args s 0 0 E.2.2.2.1) (F0 m 106 ls []) := by
  obtain ⟨⟨hx, hb, hml, hown, hts⟩, hr, hlk, hK, hST, hN⟩ := id X
  intro n
  induction n with
  | zero =>
    intro x1 x2 x3 I H locs ls h hp hl
    exact False.elim h
  | succ n ih =>
    intro x1 x2 x3 I H locs ls h hp hl
    rw [wp_X8_pass_106.eq_2] at h
    refine lv_iload_n hx hb dX8_pass_106 rfl (lv_at hl 3 rfl) ?_
    refine lv_aload_n hx hb dX8_pass_107 rfl (lv_at hl 0 rfl) ?_
    refine f_X8_7 X hp dX8_pass_108 ?_
    refine lv_iload_n hx hb dX8_pass_111 rfl (lv_at hl 1 rfl) ?_
    refine lv_iconst (v := (nI 0)) hx hb dX8_pass_112 (by decide) ?_
    refine lv_iadd hx hb dX8_pass_113 ?_
    have hv1 := h.1
    have h := h.2
    refine al_i X hp ar_s316 hv1 dX8_pass_114 ?_
    refine lv_icmp_ge (tgt := 203) hx hb dX8_pass_115 (by decide) (fun c2 => ?_) (fun c2 => ?_)
    · have h := h.1 c2
      exact K203 _ _ _ _ _ h hp (lv_sub hl [2] rfl)
    · have h := h.2 c2
      refine lv_aload_n hx hb dX8_pass_118 rfl (lv_at hl 0 rfl) ?_
      refine f_X8_7 X hp dX8_pass_119 ?_
      refine lv_iload_n hx hb dX8_pass_122 rfl (lv_at hl 1 rfl) ?_
      refine lv_iconst (v := (nI 3)) hx hb dX8_pass_123 (by decide) ?_
      refine lv_iadd hx hb dX8_pass_124 ?_
      have hv3 := h.1
      have h := h.2
      refine al_i X hp ar_s316 hv3 dX8_pass_125 ?_
      refine lv_aload_n hx hb dX8_pass_126 rfl (lv_at hl 0 rfl) ?_
      refine f_X8_7 X hp dX8_pass_127 ?_
      refine lv_iload_n hx hb dX8_pass_130 rfl (lv_at hl 1 rfl) ?_
      refine lv_iconst (v := (nI 2)) hx hb dX8_pass_131 (by decide) ?_
      refine lv_iadd hx hb dX8_pass_132 ?_
      have hv4 := h.1
      have h := h.2
      refine al_i X hp ar_s316 hv4 dX8_pass_133 ?_
      have hz5 := h.1
      have h := h.2
      refine lv_irem hx hb dX8_pass_134 hz5 ?_
      refine lv_if_ne (tgt := 203) hx hb dX8_pass_135 (by decide) (fun c6 => ?_) (fun c6 => ?_)
      · have h := h.1 c6
        exact K203 _ _ _ _ _ h hp (lv_sub hl [2] rfl)
      · have h := h.2 c6
        refine lv_aload_n hx hb dX8_pass_138 rfl (lv_at hl 0 rfl) ?_
        refine f_X8_7 X hp dX8_pass_139 ?_
        refine lv_iload_n hx hb dX8_pass_142 rfl (lv_at hl 1 rfl) ?_
        refine lv_bipush (v := (nI 41)) hx hb dX8_pass_143 (by decide) ?_
        refine lv_iadd hx hb dX8_pass_145 ?_
        refine lv_iload_n hx hb dX8_pass_146 rfl (lv_at hl 3 rfl) ?_
        refine lv_iadd hx hb dX8_pass_147 ?_
        refine lv_dup2_11 hx hb dX8_pass_148 rfl rfl ?_
        have hv7 := h.1
        have h := h.2
        refine al_i X hp ar_s316 hv7 dX8_pass_149 ?_
        refine lv_aload_n hx hb dX8_pass_150 rfl (lv_at hl 0 rfl) ?_
        refine f_X8_7 X hp dX8_pass_151 ?_
        refine lv_iload_n hx hb dX8_pass_154 rfl (lv_at hl 1 rfl) ?_
        refine lv_bipush (v := (nI 29)) hx hb dX8_pass_155 (by decide) ?_
        refine lv_iadd hx hb dX8_pass_157 ?_
        refine lv_iload_n hx hb dX8_pass_158 rfl (lv_at hl 3 rfl) ?_
        refine lv_iadd hx hb dX8_pass_159 ?_
        have hv8 := h.1
        have h := h.2
        refine al_i X hp ar_s316 hv8 dX8_pass_160 ?_
        refine lv_iconst (v := (nI 5)) hx hb dX8_pass_161 (by decide) ?_
        refine lv_icmp_ne (tgt := 194) hx hb dX8_pass_162 (by decide) (fun c9 => ?_) (fun c9 => ?_)
        · have h := h.1 c9
          exact w_X8_pass_194 X ih _ _ _ _ _ _ _ _ _ h hp (lv_sub hl [0, 1, 2, 3] rfl)
        · have h := h.2 c9
          refine lv_aload_n hx hb dX8_pass_165 rfl (lv_at hl 0 rfl) ?_
          refine f_X8_7 X hp dX8_pass_166 ?_
          refine lv_iload_n hx hb dX8_pass_169 rfl (lv_at hl 1 rfl) ?_
          refine lv_bipush (v := (nI 41)) hx hb dX8_pass_170 (by decide) ?_
          refine lv_iadd hx hb dX8_pass_172 ?_
          refine lv_iload_n hx hb dX8_pass_173 rfl (lv_at hl 3 rfl) ?_
          refine lv_iadd hx hb dX8_pass_174 ?_
          have hv10 := h.1
          have h := h.2
          refine al_i X hp ar_s316 hv10 dX8_pass_175 ?_
          refine lv_aload_n hx hb dX8_pass_176 rfl (lv_at hl 0 rfl) ?_
          refine f_X8_7 X hp dX8_pass_177 ?_
          refine lv_iload_n hx hb dX8_pass_180 rfl (lv_at hl 1 rfl) ?_
          refine lv_bipush (v := (nI 33)) hx hb dX8_pass_181 (by decide) ?_
          refine lv_iadd hx hb dX8_pass_183 ?_
          refine lv_iload_n hx hb dX8_pass_184 rfl (lv_at hl 3 rfl) ?_
          refine lv_iadd hx hb dX8_pass_185 ?_
          have hv11 := h.1
          have h := h.2
          refine al_i X hp ar_s316 hv11 dX8_pass_186 ?_
          refine lv_icmp_ge (tgt := 194) hx hb dX8_pass_187 (by decide) (fun c12 => ?_) (fun c12 => ?_)
          · have h := h.1 c12
            exact w_X8_pass_194 X ih _ _ _ _ _ _ _ _ _ h hp (lv_sub hl [0, 1, 2, 3] rfl)
          · have h := h.2 c12
            refine lv_iconst (v := (nI 1)) hx hb dX8_pass_190 (by decide) ?_
            refine lv_goto (tgt := 195) hx hb dX8_pass_191 (by decide) ?_
            exact w_X8_pass_195 X ih _ _ _ _ _ _ _ _ _ _ h hp (lv_sub hl [0, 1, 2, 3] rfl)
def wp_X8_pass_92 (Q : Int32 → II → Prop) (x1 : Int32) (x2 : Int32) (I : II) : Prop := (vp_in (x1 + (nI 3)) 1372 ∧ (vp_in (x1 + (nI 3)) 1372 ∧ ∀ I3 : II, I3 = su I 316 (x1 + (nI 3)).toNatClampNeg ((I 316 (x1 + (nI 3)).toNatClampNeg) + (nI 1)) → (∃ n55, wp_X8_pass_106 Q (fun x2 I => (Q x2 I)) n55 x1 x2 (nI 0) I3)))
set_option maxHeartbeats 4000000 in
set_option maxRecDepth 100000 in
theorem w_X8_pass_92 {E : EE} {p : Program} {l : Launch} {e : Env} {s : State} {m : MethodId} {args : Array Value} {below : List Frame} {meth : Method} {c : Code} {Q : Int32 → II → Prop} (X : CX E p s m args meth c cX8_pass 4 (some .int) RX8) : ∀ (x1 : Int32) (x2 : Int32) (I : II) (H : Heap) (locs : List Loc) (ls : Array Slot), wp_X8_pass_92 Q x1 x2 I → PP E s H locs I → lv_has ls 4 [(0, .ref (E.2.1 315)), (1, .int x1), (2, .int x2)] → W p l e rmX8_pass s m args below meth c H locs 0 0 (MQ below (va_Qi Q (BU E) E.2.2.2.1) args s 0 0 E.2.2.2.1) (F0 m 92 ls []) := by
  obtain ⟨⟨hx, hb, hml, hown, hts⟩, hr, hlk, hK, hST, hN⟩ := id X
  intro x1 x2 I H locs ls h hp hl
  unfold wp_X8_pass_92 at h
  refine lv_aload_n hx hb dX8_pass_92 rfl (lv_at hl 0 rfl) ?_
  refine f_X8_7 X hp dX8_pass_93 ?_
  refine lv_iload_n hx hb dX8_pass_96 rfl (lv_at hl 1 rfl) ?_
  refine lv_iconst (v := (nI 3)) hx hb dX8_pass_97 (by decide) ?_
  refine lv_iadd hx hb dX8_pass_98 ?_
  refine lv_dup2_11 hx hb dX8_pass_99 rfl rfl ?_
  have hv1 := h.1
  have h := h.2
  refine al_i X hp ar_s316 hv1 dX8_pass_100 ?_
  refine lv_iconst (v := (nI 1)) hx hb dX8_pass_101 (by decide) ?_
  refine lv_iadd hx hb dX8_pass_102 ?_
  have hv2 := h.1
  have h := h.2
  refine as_i X hp ar_s316 hv2 dX8_pass_103 (fun H locs hp => ?_)
  obtain ⟨I3, e4⟩ : ∃ y, y = su I 316 (x1 + (nI 3)).toNatClampNeg ((I 316 (x1 + (nI 3)).toNatClampNeg) + (nI 1)) := ⟨_, rfl⟩
  have hp : PP E s H locs I3 := by rw [e4]; exact hp
  have h := h I3 e4
  refine lv_iconst (v := (nI 0)) hx hb dX8_pass_104 (by decide) ?_
  refine lv_istore_n (lv' := [(3, .int (nI 0)), (0, .ref (E.2.1 315)), (1, .int x1), (2, .int x2)]) hx hb dX8_pass_105 rfl hl (by decide) rfl (fun ls hl => ?_)
  obtain ⟨n55, h⟩ := h
  refine w_X8_pass_106 X ?_ n55 _ _ _ _ _ _ _ h hp (lv_sub hl [1, 2, 3, 0] rfl)
  · intro x2 I H locs ls h hp hl
    refine lv_iload_n hx hb dX8_pass_203 rfl (lv_at hl 0 rfl) ?_
    exact rt_i X hp h dX8_pass_204
def wp_X8_pass_87 (Q : Int32 → II → Prop) (x1 : Int32) (x2 : Int32) (I : II) : Prop := (wp_X8_leaveFirst x1 I (fun I1 => (wp_X8_pass_92 Q x1 x2 I1)))
set_option maxHeartbeats 4000000 in
set_option maxRecDepth 100000 in
theorem w_X8_pass_87 {E : EE} {p : Program} {l : Launch} {e : Env} {s : State} {m : MethodId} {args : Array Value} {below : List Frame} {meth : Method} {c : Code} {Q : Int32 → II → Prop} (X : CX E p s m args meth c cX8_pass 4 (some .int) RX8) : ∀ (x1 : Int32) (x2 : Int32) (I : II) (H : Heap) (locs : List Loc) (ls : Array Slot), wp_X8_pass_87 Q x1 x2 I → PP E s H locs I → lv_has ls 4 [(0, .ref (E.2.1 315)), (1, .int x1), (2, .int x2)] → W p l e rmX8_pass s m args below meth c H locs 0 0 (MQ below (va_Qi Q (BU E) E.2.2.2.1) args s 0 0 E.2.2.2.1) (F0 m 87 ls []) := by
  obtain ⟨⟨hx, hb, hml, hown, hts⟩, hr, hlk, hK, hST, hN⟩ := id X
  intro x1 x2 I H locs ls h hp hl
  unfold wp_X8_pass_87 at h
  refine lv_aload_n hx hb dX8_pass_87 rfl (lv_at hl 0 rfl) ?_
  refine lv_iload_n hx hb dX8_pass_88 rfl (lv_at hl 1 rfl) ?_
  refine kv (kV (As := [.int x1]) (rest := []) X hp (C_X8_leaveFirst  h) tw_ml_X8_163 vf_X8_leaveFirst ⟨rfl, rfl, Nat.le_of_ble_eq_true rfl, Nat.le_of_ble_eq_true rfl⟩ (pr_rcv X hp (k := 315) (by decide) (ob_315 _) (q := (RX8, TX8, 18)) rfl) rfl hl.1 rfl (Nat.le_of_ble_eq_true rfl) dX8_pass_89) hp (fun I1 H locs h hp => ?_)
  exact w_X8_pass_92 X  _ _ _ _ _ _ h hp (lv_sub hl [0, 1, 2] rfl)
def wp_X8_pass (x1 : Int32) (I : II) (Q : Int32 → II → Prop) : Prop := (vp_in (x1 + (nI 7)) 1372 ∧ (((I 316 (x1 + (nI 7)).toNatClampNeg) ≤ 0 → (wp_X8_pass_92 Q x1 (-nI 1000000) I)) ∧ (¬ (I 316 (x1 + (nI 7)).toNatClampNeg) ≤ 0 → (vp_in (x1 + (nI 8)) 1372 ∧ (wp_X8_whoServes x1 (I 316 (x1 + (nI 8)).toNatClampNeg) I (fun r5 I4 => ((¬ r5 = (-nI 1000000) → (wp_X8_takeFrom x1 r5 (I 316 (x1 + (nI 8)).toNatClampNeg) I4 (fun I7 => (vp_in (x1 + (nI 4)) 1372 ∧ (vp_in (x1 + (nI 4)) 1372 ∧ ∀ I11 : II, I11 = su I7 316 (x1 + (nI 4)).toNatClampNeg ((I7 316 (x1 + (nI 4)).toNatClampNeg) + (nI 1)) → (vp_in ((x1 + (nI 45)) + r5) 1372 ∧ (vp_in ((x1 + (nI 45)) + r5) 1372 ∧ ∀ I15 : II, I15 = su I11 316 ((x1 + (nI 45)) + r5).toNatClampNeg ((I11 316 ((x1 + (nI 45)) + r5).toNatClampNeg) + (nI 1)) → (wp_X8_pass_87 Q x1 r5 I15)))))))) ∧ (r5 = (-nI 1000000) → (vp_in (x1 + (nI 5)) 1372 ∧ (vp_in (x1 + (nI 5)) 1372 ∧ ∀ I19 : II, I19 = su I4 316 (x1 + (nI 5)).toNatClampNeg ((I4 316 (x1 + (nI 5)).toNatClampNeg) + (nI 1)) → (wp_X8_pass_87 Q x1 r5 I19)))))))))))
set_option maxHeartbeats 4000000 in
set_option maxRecDepth 100000 in
theorem w_X8_pass_0 {E : EE} {p : Program} {l : Launch} {e : Env} {s : State} {m : MethodId} {args : Array Value} {below : List Frame} {meth : Method} {c : Code} {Q : Int32 → II → Prop} (X : CX E p s m args meth c cX8_pass 4 (some .int) RX8) : ∀ (x1 : Int32) (I : II) (H : Heap) (locs : List Loc) (ls : Array Slot), wp_X8_pass x1 I Q → PP E s H locs I → lv_has ls 4 [(0, .ref (E.2.1 315)), (1, .int x1)] → W p l e rmX8_pass s m args below meth c H locs 0 0 (MQ below (va_Qi Q (BU E) E.2.2.2.1) args s 0 0 E.2.2.2.1) (F0 m 0 ls []) := by
  obtain ⟨⟨hx, hb, hml, hown, hts⟩, hr, hlk, hK, hST, hN⟩ := id X
  intro x1 I H locs ls h hp hl
  unfold wp_X8_pass at h
  refine lv_ldc (v := (-nI 1000000)) hx hb hown (hts _ tw_k_X8_149) dX8_pass_0 ?_
  refine lv_istore_n (lv' := [(2, .int (-nI 1000000)), (0, .ref (E.2.1 315)), (1, .int x1)]) hx hb dX8_pass_2 rfl hl (by decide) rfl (fun ls hl => ?_)
  refine lv_aload_n hx hb dX8_pass_3 rfl (lv_at hl 1 rfl) ?_
  refine f_X8_7 X hp dX8_pass_4 ?_
  refine lv_iload_n hx hb dX8_pass_7 rfl (lv_at hl 2 rfl) ?_
  refine lv_bipush (v := (nI 7)) hx hb dX8_pass_8 (by decide) ?_
  refine lv_iadd hx hb dX8_pass_10 ?_
  have hv1 := h.1
  have h := h.2
  refine al_i X hp ar_s316 hv1 dX8_pass_11 ?_
  refine lv_if_le (tgt := 92) hx hb dX8_pass_12 (by decide) (fun c2 => ?_) (fun c2 => ?_)
  · have h := h.1 c2
    exact w_X8_pass_92 X  _ _ _ _ _ _ h hp (lv_sub hl [1, 2, 0] rfl)
  · have h := h.2 c2
    refine lv_aload_n hx hb dX8_pass_15 rfl (lv_at hl 1 rfl) ?_
    refine f_X8_7 X hp dX8_pass_16 ?_
    refine lv_iload_n hx hb dX8_pass_19 rfl (lv_at hl 2 rfl) ?_
    refine lv_bipush (v := (nI 8)) hx hb dX8_pass_20 (by decide) ?_
    refine lv_iadd hx hb dX8_pass_22 ?_
    have hv3 := h.1
    have h := h.2
    refine al_i X hp ar_s316 hv3 dX8_pass_23 ?_
    refine lv_istore_n (lv' := [(3, .int (I 316 (x1 + (nI 8)).toNatClampNeg)), (2, .int (-nI 1000000)), (0, .ref (E.2.1 315)), (1, .int x1)]) hx hb dX8_pass_24 rfl hl (by decide) rfl (fun ls hl => ?_)
    refine lv_aload_n hx hb dX8_pass_25 rfl (lv_at hl 2 rfl) ?_
    refine lv_iload_n hx hb dX8_pass_26 rfl (lv_at hl 3 rfl) ?_
    refine lv_iload_n hx hb dX8_pass_27 rfl (lv_at hl 0 rfl) ?_
    refine ki (kV (As := [.int x1, .int (I 316 (x1 + (nI 8)).toNatClampNeg)]) (rest := []) X hp (C_X8_whoServes  h) tw_ml_X8_156 vf_X8_whoServes ⟨rfl, rfl, Nat.le_of_ble_eq_true rfl, Nat.le_of_ble_eq_true rfl⟩ (pr_rcv X hp (k := 315) (by decide) (ob_315 _) (q := (RX8, TX8, 18)) rfl) rfl hl.1 rfl (Nat.le_of_ble_eq_true rfl) dX8_pass_28) hp (fun r5 I4 H locs h hp => ?_)
    refine lv_istore_n (lv' := [(2, .int r5), (3, .int (I 316 (x1 + (nI 8)).toNatClampNeg)), (0, .ref (E.2.1 315)), (1, .int x1)]) hx hb dX8_pass_31 rfl hl (by decide) rfl (fun ls hl => ?_)
    refine lv_iload_n hx hb dX8_pass_32 rfl (lv_at hl 0 rfl) ?_
    refine lv_ldc (v := (-nI 1000000)) hx hb hown (hts _ tw_k_X8_149) dX8_pass_33 ?_
    refine lv_icmp_ne (tgt := 53) hx hb dX8_pass_35 (by decide) (fun c6 => ?_) (fun c6 => ?_)
    · have h := h.1 c6
      refine lv_aload_n hx hb dX8_pass_53 rfl (lv_at hl 2 rfl) ?_
      refine lv_iload_n hx hb dX8_pass_54 rfl (lv_at hl 3 rfl) ?_
      refine lv_iload_n hx hb dX8_pass_55 rfl (lv_at hl 0 rfl) ?_
      refine lv_iload_n hx hb dX8_pass_56 rfl (lv_at hl 1 rfl) ?_
      refine kv (kV (As := [.int x1, .int r5, .int (I 316 (x1 + (nI 8)).toNatClampNeg)]) (rest := []) X hp (C_X8_takeFrom  h) tw_ml_X8_159 vf_X8_takeFrom ⟨rfl, rfl, Nat.le_of_ble_eq_true rfl, Nat.le_of_ble_eq_true rfl⟩ (pr_rcv X hp (k := 315) (by decide) (ob_315 _) (q := (RX8, TX8, 18)) rfl) rfl hl.1 rfl (Nat.le_of_ble_eq_true rfl) dX8_pass_57) hp (fun I7 H locs h hp => ?_)
      refine lv_aload_n hx hb dX8_pass_60 rfl (lv_at hl 2 rfl) ?_
      refine f_X8_7 X hp dX8_pass_61 ?_
      refine lv_iload_n hx hb dX8_pass_64 rfl (lv_at hl 3 rfl) ?_
      refine lv_iconst (v := (nI 4)) hx hb dX8_pass_65 (by decide) ?_
      refine lv_iadd hx hb dX8_pass_66 ?_
      refine lv_dup2_11 hx hb dX8_pass_67 rfl rfl ?_
      have hv9 := h.1
      have h := h.2
      refine al_i X hp ar_s316 hv9 dX8_pass_68 ?_
      refine lv_iconst (v := (nI 1)) hx hb dX8_pass_69 (by decide) ?_
      refine lv_iadd hx hb dX8_pass_70 ?_
      have hv10 := h.1
      have h := h.2
      refine as_i X hp ar_s316 hv10 dX8_pass_71 (fun H locs hp => ?_)
      obtain ⟨I11, e12⟩ : ∃ y, y = su I7 316 (x1 + (nI 4)).toNatClampNeg ((I7 316 (x1 + (nI 4)).toNatClampNeg) + (nI 1)) := ⟨_, rfl⟩
      have hp : PP E s H locs I11 := by rw [e12]; exact hp
      have h := h I11 e12
      refine lv_aload_n hx hb dX8_pass_72 rfl (lv_at hl 2 rfl) ?_
      refine f_X8_7 X hp dX8_pass_73 ?_
      refine lv_iload_n hx hb dX8_pass_76 rfl (lv_at hl 3 rfl) ?_
      refine lv_bipush (v := (nI 45)) hx hb dX8_pass_77 (by decide) ?_
      refine lv_iadd hx hb dX8_pass_79 ?_
      refine lv_iload_n hx hb dX8_pass_80 rfl (lv_at hl 0 rfl) ?_
      refine lv_iadd hx hb dX8_pass_81 ?_
      refine lv_dup2_11 hx hb dX8_pass_82 rfl rfl ?_
      have hv13 := h.1
      have h := h.2
      refine al_i X hp ar_s316 hv13 dX8_pass_83 ?_
      refine lv_iconst (v := (nI 1)) hx hb dX8_pass_84 (by decide) ?_
      refine lv_iadd hx hb dX8_pass_85 ?_
      have hv14 := h.1
      have h := h.2
      refine as_i X hp ar_s316 hv14 dX8_pass_86 (fun H locs hp => ?_)
      obtain ⟨I15, e16⟩ : ∃ y, y = su I11 316 ((x1 + (nI 45)) + r5).toNatClampNeg ((I11 316 ((x1 + (nI 45)) + r5).toNatClampNeg) + (nI 1)) := ⟨_, rfl⟩
      have hp : PP E s H locs I15 := by rw [e16]; exact hp
      have h := h I15 e16
      exact w_X8_pass_87 X  _ _ _ _ _ _ h hp (lv_sub hl [2, 3, 0] rfl)
    · have h := h.2 c6
      refine lv_aload_n hx hb dX8_pass_38 rfl (lv_at hl 2 rfl) ?_
      refine f_X8_7 X hp dX8_pass_39 ?_
      refine lv_iload_n hx hb dX8_pass_42 rfl (lv_at hl 3 rfl) ?_
      refine lv_iconst (v := (nI 5)) hx hb dX8_pass_43 (by decide) ?_
      refine lv_iadd hx hb dX8_pass_44 ?_
      refine lv_dup2_11 hx hb dX8_pass_45 rfl rfl ?_
      have hv17 := h.1
      have h := h.2
      refine al_i X hp ar_s316 hv17 dX8_pass_46 ?_
      refine lv_iconst (v := (nI 1)) hx hb dX8_pass_47 (by decide) ?_
      refine lv_iadd hx hb dX8_pass_48 ?_
      have hv18 := h.1
      have h := h.2
      refine as_i X hp ar_s316 hv18 dX8_pass_49 (fun H locs hp => ?_)
      obtain ⟨I19, e20⟩ : ∃ y, y = su I4 316 (x1 + (nI 5)).toNatClampNeg ((I4 316 (x1 + (nI 5)).toNatClampNeg) + (nI 1)) := ⟨_, rfl⟩
      have hp : PP E s H locs I19 := by rw [e20]; exact hp
      have h := h I19 e20
      refine lv_goto (tgt := 87) hx hb dX8_pass_50 (by decide) ?_
      exact w_X8_pass_87 X  _ _ _ _ _ _ h hp (lv_sub hl [2, 3, 0] rfl)
set_option maxRecDepth 100000 in
theorem C_X8_pass {E : EE} {l : Launch} {x1 : Int32} {I : II} {Q : Int32 → II → Prop} (h : wp_X8_pass x1 I Q) : Met l yX8_pass (Cond.code yX8_pass cX8_pass 4 (some .int) :: lwT) rmX8_pass (va_Pc [.ref (E.2.1 315), .int x1] (PU E I)) (va_Qi Q (BU E) E.2.2.2.1) 0 0 E.2.2.2.1 :=
  ofWalk [.ref (E.2.1 315), .int x1] (by decide) tw_c_X8_pass (Nat.le_of_ble_eq_true rfl) (fun p e s m below meth c ls X hp hl => w_X8_pass_0 X _ _ _ _ _ h hp hl)
abbrev rmX8_passes : Room := { frames := 4, cells := 0, slots := 0, locals := 97 }
theorem vf_X8_passes : VF yX8_passes RX8 cX8_passes 4 none 2 := ⟨tw_in_X8, tw_im_X8_passes, tw_se_X8_passes, tw_c_X8_passes, by decide, by decide, by decide +kernel⟩
def wp_X8_passes_2 (Q : II → Prop) (k19 : II → Prop) : Nat → Int32 → Int32 → Int32 → II → Prop
  | 0, _, _, _, _ => False
  | n + 1, x1, x2, x3, I => ((x2 ≤ x3 → (k19 I)) ∧ (¬ x2 ≤ x3 → (wp_X8_pass x1 I (fun r3 I2 => (wp_X8_passes_2 Q k19 n x1 x2 (x3 + (nI 1)) I2)))))
set_option maxHeartbeats 4000000 in
set_option maxRecDepth 100000 in
theorem w_X8_passes_2 {E : EE} {p : Program} {l : Launch} {e : Env} {s : State} {m : MethodId} {args : Array Value} {below : List Frame} {meth : Method} {c : Code} {Q : II → Prop} {k19 : II → Prop} (X : CX E p s m args meth c cX8_passes 4 none RX8) (K19 : ∀ (I : II) (H : Heap) (locs : List Loc) (ls : Array Slot), k19 I → PP E s H locs I → lv_has ls 4 [] → W p l e rmX8_passes s m args below meth c H locs 0 0 (MQ below (va_Qv Q (BU E) E.2.2.2.1) args s 0 0 E.2.2.2.1) (F0 m 19 ls [])) : ∀ (n : Nat) (x1 : Int32) (x2 : Int32) (x3 : Int32) (I : II) (H : Heap) (locs : List Loc) (ls : Array Slot), wp_X8_passes_2 Q k19 n x1 x2 x3 I → PP E s H locs I → lv_has ls 4 [(0, .ref (E.2.1 315)), (1, .int x1), (2, .int x2), (3, .int x3)] → W p l e rmX8_passes s m args below meth c H locs 0 0 (MQ below (va_Qv Q (BU E) E.2.2.2.1) args s 0 0 E.2.2.2.1) (F0 m 2 ls []) := by
  obtain ⟨⟨hx, hb, hml, hown, hts⟩, hr, hlk, hK, hST, hN⟩ := id X
  intro n
  induction n with
  | zero =>
    intro x1 x2 x3 I H locs ls h hp hl
    exact False.elim h
  | succ n ih =>
    intro x1 x2 x3 I H locs ls h hp hl
    rw [wp_X8_passes_2.eq_2] at h
    refine lv_iload_n hx hb dX8_passes_2 rfl (lv_at hl 3 rfl) ?_
    refine lv_iload_n hx hb dX8_passes_3 rfl (lv_at hl 2 rfl) ?_
    refine lv_icmp_ge (tgt := 19) hx hb dX8_passes_4 (by decide) (fun c1 => ?_) (fun c1 => ?_)
    · have h := h.1 c1
      exact K19 _ _ _ _ h hp (lv_sub hl [] rfl)
    · have h := h.2 c1
      refine lv_aload_n hx hb dX8_passes_7 rfl (lv_at hl 0 rfl) ?_
      refine lv_iload_n hx hb dX8_passes_8 rfl (lv_at hl 1 rfl) ?_
      refine ki (kV (As := [.int x1]) (rest := []) X hp (C_X8_pass  h) tw_ml_X8_167 vf_X8_pass ⟨rfl, rfl, Nat.le_of_ble_eq_true rfl, Nat.le_of_ble_eq_true rfl⟩ (pr_rcv X hp (k := 315) (by decide) (ob_315 _) (q := (RX8, TX8, 18)) rfl) rfl hl.1 rfl (Nat.le_of_ble_eq_true rfl) dX8_passes_9) hp (fun r3 I2 H locs h hp => ?_)
      refine lv_pop hx hb dX8_passes_12 rfl ?_
      refine lv_iinc (v := (x3 + (nI 1))) (lv' := [(3, .int (x3 + (nI 1))), (0, .ref (E.2.1 315)), (1, .int x1), (2, .int x2)]) hx hb dX8_passes_13 hl (k := 3) rfl rfl (by decide) rfl (fun ls hl => ?_)
      refine lv_goto (tgt := 2) hx hb dX8_passes_16 (by decide) ?_
      exact ih _ _ _ _ _ _ _ h hp (lv_sub hl [1, 2, 3, 0] rfl)
def wp_X8_passes (x1 : Int32) (x2 : Int32) (I : II) (Q : II → Prop) : Prop := (∃ n51, wp_X8_passes_2 Q (fun I => (Q I)) n51 x1 x2 (nI 0) I)
set_option maxHeartbeats 4000000 in
set_option maxRecDepth 100000 in
theorem w_X8_passes_0 {E : EE} {p : Program} {l : Launch} {e : Env} {s : State} {m : MethodId} {args : Array Value} {below : List Frame} {meth : Method} {c : Code} {Q : II → Prop} (X : CX E p s m args meth c cX8_passes 4 none RX8) : ∀ (x1 : Int32) (x2 : Int32) (I : II) (H : Heap) (locs : List Loc) (ls : Array Slot), wp_X8_passes x1 x2 I Q → PP E s H locs I → lv_has ls 4 [(0, .ref (E.2.1 315)), (1, .int x1), (2, .int x2)] → W p l e rmX8_passes s m args below meth c H locs 0 0 (MQ below (va_Qv Q (BU E) E.2.2.2.1) args s 0 0 E.2.2.2.1) (F0 m 0 ls []) := by
  obtain ⟨⟨hx, hb, hml, hown, hts⟩, hr, hlk, hK, hST, hN⟩ := id X
  intro x1 x2 I H locs ls h hp hl
  unfold wp_X8_passes at h
  refine lv_iconst (v := (nI 0)) hx hb dX8_passes_0 (by decide) ?_
  refine lv_istore_n (lv' := [(3, .int (nI 0)), (0, .ref (E.2.1 315)), (1, .int x1), (2, .int x2)]) hx hb dX8_passes_1 rfl hl (by decide) rfl (fun ls hl => ?_)
  obtain ⟨n51, h⟩ := h
  refine w_X8_passes_2 X ?_ n51 _ _ _ _ _ _ _ h hp (lv_sub hl [1, 2, 3, 0] rfl)
  · intro I H locs ls h hp hl
    exact rt_v X hp h dX8_passes_19
set_option maxRecDepth 100000 in
theorem C_X8_passes {E : EE} {l : Launch} {x1 : Int32} {x2 : Int32} {I : II} {Q : II → Prop} (h : wp_X8_passes x1 x2 I Q) : Met l yX8_passes (Cond.code yX8_passes cX8_passes 4 none :: lwT) rmX8_passes (va_Pc [.ref (E.2.1 315), .int x1, .int x2] (PU E I)) (va_Qv Q (BU E) E.2.2.2.1) 0 0 E.2.2.2.1 :=
  ofWalk [.ref (E.2.1 315), .int x1, .int x2] (by decide) tw_c_X8_passes (Nat.le_of_ble_eq_true rfl) (fun p e s m below meth c ls X hp hl => w_X8_passes_0 X _ _ _ _ _ _ h hp hl)
abbrev rmX8_serve : Room := { frames := 4, cells := 0, slots := 0, locals := 97 }
theorem vf_X8_serve : VF yX8_serve RX8 cX8_serve 3 (some .int) 1 := ⟨tw_in_X8, tw_im_X8_serve, tw_se_X8_serve, tw_c_X8_serve, by decide, by decide, by decide +kernel⟩
def wp_X8_serve_44 (Q : Int32 → II → Prop) (k65 : II → Prop) : Nat → Int32 → Int32 → II → Prop
  | 0, _, _, _ => False
  | n + 1, x1, x2, I => ((x1 ≤ x2 → (k65 I)) ∧ (¬ x1 ≤ x2 → (wp_X8_keepPast I (fun I2 => (wp_X8_pass (nI 0) I2 (fun r5 I4 => (wp_X8_serve_44 Q k65 n x1 (x2 + (nI 1)) I4)))))))
set_option maxHeartbeats 4000000 in
set_option maxRecDepth 100000 in
theorem w_X8_serve_44 {E : EE} {p : Program} {l : Launch} {e : Env} {s : State} {m : MethodId} {args : Array Value} {below : List Frame} {meth : Method} {c : Code} {Q : Int32 → II → Prop} {k65 : II → Prop} (X : CX E p s m args meth c cX8_serve 3 (some .int) RX8) (K65 : ∀ (I : II) (H : Heap) (locs : List Loc) (ls : Array Slot), k65 I → PP E s H locs I → lv_has ls 3 [(0, .ref (E.2.1 315))] → W p l e rmX8_serve s m args below meth c H locs 0 0 (MQ below (va_Qi Q (BU E) E.2.2.2.1) args s 0 0 E.2.2.2.1) (F0 m 65 ls [])) : ∀ (n : Nat) (x1 : Int32) (x2 : Int32) (I : II) (H : Heap) (locs : List Loc) (ls : Array Slot), wp_X8_serve_44 Q k65 n x1 x2 I → PP E s H locs I → lv_has ls 3 [(0, .ref (E.2.1 315)), (1, .int x1), (2, .int x2)] → W p l e rmX8_serve s m args below meth c H locs 0 0 (MQ below (va_Qi Q (BU E) E.2.2.2.1) args s 0 0 E.2.2.2.1) (F0 m 44 ls []) := by
  obtain ⟨⟨hx, hb, hml, hown, hts⟩, hr, hlk, hK, hST, hN⟩ := id X
  intro n
  induction n with
  | zero =>
    intro x1 x2 I H locs ls h hp hl
    exact False.elim h
  | succ n ih =>
    intro x1 x2 I H locs ls h hp hl
    rw [wp_X8_serve_44.eq_2] at h
    refine lv_iload_n hx hb dX8_serve_44 rfl (lv_at hl 2 rfl) ?_
    refine lv_iload_n hx hb dX8_serve_45 rfl (lv_at hl 1 rfl) ?_
    refine lv_icmp_ge (tgt := 65) hx hb dX8_serve_46 (by decide) (fun c1 => ?_) (fun c1 => ?_)
    · have h := h.1 c1
      exact K65 _ _ _ _ h hp (lv_sub hl [0] rfl)
    · have h := h.2 c1
      refine lv_aload_n hx hb dX8_serve_49 rfl (lv_at hl 0 rfl) ?_
      refine kv (kV (As := []) (rest := []) X hp (C_X8_keepPast  h) tw_ml_X8_172 vf_X8_keepPast ⟨rfl, rfl, Nat.le_of_ble_eq_true rfl, Nat.le_of_ble_eq_true rfl⟩ (pr_rcv X hp (k := 315) (by decide) (ob_315 _) (q := (RX8, TX8, 18)) rfl) rfl hl.1 rfl (Nat.le_of_ble_eq_true rfl) dX8_serve_50) hp (fun I2 H locs h hp => ?_)
      refine lv_aload_n hx hb dX8_serve_53 rfl (lv_at hl 0 rfl) ?_
      refine lv_iconst (v := (nI 0)) hx hb dX8_serve_54 (by decide) ?_
      refine ki (kV (As := [.int (nI 0)]) (rest := []) X hp (C_X8_pass  h) tw_ml_X8_167 vf_X8_pass ⟨rfl, rfl, Nat.le_of_ble_eq_true rfl, Nat.le_of_ble_eq_true rfl⟩ (pr_rcv X hp (k := 315) (by decide) (ob_315 _) (q := (RX8, TX8, 18)) rfl) rfl hl.1 rfl (Nat.le_of_ble_eq_true rfl) dX8_serve_55) hp (fun r5 I4 H locs h hp => ?_)
      refine lv_pop hx hb dX8_serve_58 rfl ?_
      refine lv_iinc (v := (x2 + (nI 1))) (lv' := [(2, .int (x2 + (nI 1))), (0, .ref (E.2.1 315)), (1, .int x1)]) hx hb dX8_serve_59 hl (k := 2) rfl rfl (by decide) rfl (fun ls hl => ?_)
      refine lv_goto (tgt := 44) hx hb dX8_serve_62 (by decide) ?_
      exact ih _ _ _ _ _ _ h hp (lv_sub hl [1, 2, 0] rfl)
def wp_X8_serve (x1 : Int32) (I : II) (Q : Int32 → II → Prop) : Prop := ((¬ (I 315 1) = 0 → (wp_X8_in x1.toInt64 (lN 1) (lN 24) I (fun r3 I2 => ((¬ r3 = 0 → (vp_in (nI 3) 1372 ∧ ((((I2 316 (nI 3).toNatClampNeg) + x1) ≤ (nI 999) → (∃ n58, wp_X8_serve_44 Q (fun I => (vp_in (nI 7) 1372 ∧ (Q (I 316 (nI 7).toNatClampNeg) I))) n58 x1 (nI 0) I2)) ∧ (¬ ((I2 316 (nI 3).toNatClampNeg) + x1) ≤ (nI 999) → (Q (-nI 1000003) I2))))) ∧ (r3 = 0 → (Q (-nI 1000001) I2)))))) ∧ ((I 315 1) = 0 → (Q (-nI 1000002) I)))
set_option maxHeartbeats 4000000 in
set_option maxRecDepth 100000 in
theorem w_X8_serve_0 {E : EE} {p : Program} {l : Launch} {e : Env} {s : State} {m : MethodId} {args : Array Value} {below : List Frame} {meth : Method} {c : Code} {Q : Int32 → II → Prop} (X : CX E p s m args meth c cX8_serve 3 (some .int) RX8) : ∀ (x1 : Int32) (I : II) (H : Heap) (locs : List Loc) (ls : Array Slot), wp_X8_serve x1 I Q → PP E s H locs I → lv_has ls 3 [(0, .ref (E.2.1 315)), (1, .int x1)] → W p l e rmX8_serve s m args below meth c H locs 0 0 (MQ below (va_Qi Q (BU E) E.2.2.2.1) args s 0 0 E.2.2.2.1) (F0 m 0 ls []) := by
  obtain ⟨⟨hx, hb, hml, hown, hts⟩, hr, hlk, hK, hST, hN⟩ := id X
  intro x1 I H locs ls h hp hl
  unfold wp_X8_serve at h
  refine lv_aload_n hx hb dX8_serve_0 rfl (lv_at hl 0 rfl) ?_
  refine f_X8_137 X hp dX8_serve_1 ?_
  refine lv_if_ne (tgt := 10) hx hb dX8_serve_4 (by decide) (fun c1 => ?_) (fun c1 => ?_)
  · have h := h.1 c1
    refine lv_iload_n hx hb dX8_serve_10 rfl (lv_at hl 1 rfl) ?_
    refine lv_i2l (v := x1.toInt64) hx hb dX8_serve_11 rfl ?_
    refine lv_lconst (v := (lN 1)) hx hb dX8_serve_12 (by decide) ?_
    refine lv_ldc2 (v := (lN 24)) hx hb hown (hts _ tw_kl_X8_170) dX8_serve_13 ?_
    refine ki (kS (As := [.long x1.toInt64, .long (lN 1), .long (lN 24)]) (rest := []) X hp (C_X8_in  h) tw_ml_X8_45 sf_X8_in ⟨rfl, rfl, Nat.le_of_ble_eq_true rfl, Nat.le_of_ble_eq_true rfl⟩ rfl hl.1 rfl (Nat.le_of_ble_eq_true rfl) dX8_serve_16) hp (fun r3 I2 H locs h hp => ?_)
    refine lv_if_ne (tgt := 25) hx hb dX8_serve_19 (by decide) (fun c4 => ?_) (fun c4 => ?_)
    · have h := h.1 c4
      refine lv_aload_n hx hb dX8_serve_25 rfl (lv_at hl 0 rfl) ?_
      refine f_X8_7 X hp dX8_serve_26 ?_
      refine lv_iconst (v := (nI 3)) hx hb dX8_serve_29 (by decide) ?_
      have hv5 := h.1
      have h := h.2
      refine al_i X hp ar_s316 hv5 dX8_serve_30 ?_
      refine lv_iload_n hx hb dX8_serve_31 rfl (lv_at hl 1 rfl) ?_
      refine lv_iadd hx hb dX8_serve_32 ?_
      refine lv_sipush (v := (nI 999)) hx hb dX8_serve_33 (by decide) ?_
      refine lv_icmp_le (tgt := 42) hx hb dX8_serve_36 (by decide) (fun c6 => ?_) (fun c6 => ?_)
      · have h := h.1 c6
        refine lv_iconst (v := (nI 0)) hx hb dX8_serve_42 (by decide) ?_
        refine lv_istore_n (lv' := [(2, .int (nI 0)), (0, .ref (E.2.1 315)), (1, .int x1)]) hx hb dX8_serve_43 rfl hl (by decide) rfl (fun ls hl => ?_)
        obtain ⟨n58, h⟩ := h
        refine w_X8_serve_44 X ?_ n58 _ _ _ _ _ _ h hp (lv_sub hl [1, 2, 0] rfl)
        · intro I H locs ls h hp hl
          refine lv_aload_n hx hb dX8_serve_65 rfl (lv_at hl 0 rfl) ?_
          refine f_X8_7 X hp dX8_serve_66 ?_
          refine lv_bipush (v := (nI 7)) hx hb dX8_serve_69 (by decide) ?_
          have hv57 := h.1
          have h := h.2
          refine al_i X hp ar_s316 hv57 dX8_serve_71 ?_
          exact rt_i X hp h dX8_serve_72
      · have h := h.2 c6
        refine lv_ldc (v := (-nI 1000003)) hx hb hown (hts _ tw_k_X8_76) dX8_serve_39 ?_
        exact rt_i X hp h dX8_serve_41
    · have h := h.2 c4
      refine lv_ldc (v := (-nI 1000001)) hx hb hown (hts _ tw_k_X8_55) dX8_serve_22 ?_
      exact rt_i X hp h dX8_serve_24
  · have h := h.2 c1
    refine lv_ldc (v := (-nI 1000002)) hx hb hown (hts _ tw_k_X8_144) dX8_serve_7 ?_
    exact rt_i X hp h dX8_serve_9
set_option maxRecDepth 100000 in
theorem C_X8_serve {E : EE} {l : Launch} {x1 : Int32} {I : II} {Q : Int32 → II → Prop} (h : wp_X8_serve x1 I Q) : Met l yX8_serve (Cond.code yX8_serve cX8_serve 3 (some .int) :: lwT) rmX8_serve (va_Pc [.ref (E.2.1 315), .int x1] (PU E I)) (va_Qi Q (BU E) E.2.2.2.1) 0 0 E.2.2.2.1 :=
  ofWalk [.ref (E.2.1 315), .int x1] (by decide) tw_c_X8_serve (Nat.le_of_ble_eq_true rfl) (fun p e s m below meth c ls X hp hl => w_X8_serve_0 X _ _ _ _ _ h hp hl)
abbrev rmX8_counter : Room := { frames := 2, cells := 0, slots := 0, locals := 46 }
theorem vf_X8_counter : VF yX8_counter RX8 cX8_counter 3 (some .int) 2 := ⟨tw_in_X8, tw_im_X8_counter, tw_se_X8_counter, tw_c_X8_counter, by decide, by decide, by decide +kernel⟩
def wp_X8_counter_42 (Q : Int32 → II → Prop) (x1 : Int32) (v0 : Int32) (v1 : Int32) (I : II) : Prop := ((¬ v1 = v0 → (wp_X8_keepPast I (fun I2 => (vp_in (nI 6) 1372 ∧ (vp_in (nI 6) 1372 ∧ ∀ I6 : II, I6 = su I2 316 (nI 6).toNatClampNeg ((I2 316 (nI 6).toNatClampNeg) ^^^ ((nI 1) <<< (x1 &&& 31))) → (vp_in (nI 6) 1372 ∧ (Q (I6 316 (nI 6).toNatClampNeg) I6))))))) ∧ (v1 = v0 → (Q (-nI 1000002) I)))
set_option maxHeartbeats 4000000 in
set_option maxRecDepth 100000 in
theorem w_X8_counter_42 {E : EE} {p : Program} {l : Launch} {e : Env} {s : State} {m : MethodId} {args : Array Value} {below : List Frame} {meth : Method} {c : Code} {Q : Int32 → II → Prop} (X : CX E p s m args meth c cX8_counter 3 (some .int) RX8) : ∀ (x1 : Int32) (v0 : Int32) (v1 : Int32) (I : II) (H : Heap) (locs : List Loc) (ls : Array Slot), wp_X8_counter_42 Q x1 v0 v1 I → PP E s H locs I → lv_has ls 3 [(0, .ref (E.2.1 315)), (1, .int x1)] → W p l e rmX8_counter s m args below meth c H locs 0 0 (MQ below (va_Qi Q (BU E) E.2.2.2.1) args s 0 0 E.2.2.2.1) (F0 m 42 ls [.int v0, .int v1]) := by
  obtain ⟨⟨hx, hb, hml, hown, hts⟩, hr, hlk, hK, hST, hN⟩ := id X
  intro x1 v0 v1 I H locs ls h hp hl
  unfold wp_X8_counter_42 at h
  refine lv_icmp_ne (tgt := 48) hx hb dX8_counter_42 (by decide) (fun c1 => ?_) (fun c1 => ?_)
  · have h := h.1 c1
    refine lv_aload_n hx hb dX8_counter_48 rfl (lv_at hl 0 rfl) ?_
    refine kv (kV (As := []) (rest := []) X hp (C_X8_keepPast  h) tw_ml_X8_172 vf_X8_keepPast ⟨rfl, rfl, Nat.le_of_ble_eq_true rfl, Nat.le_of_ble_eq_true rfl⟩ (pr_rcv X hp (k := 315) (by decide) (ob_315 _) (q := (RX8, TX8, 18)) rfl) rfl hl.1 rfl (Nat.le_of_ble_eq_true rfl) dX8_counter_49) hp (fun I2 H locs h hp => ?_)
    refine lv_aload_n hx hb dX8_counter_52 rfl (lv_at hl 0 rfl) ?_
    refine f_X8_7 X hp dX8_counter_53 ?_
    refine lv_bipush (v := (nI 6)) hx hb dX8_counter_56 (by decide) ?_
    refine lv_dup2_11 hx hb dX8_counter_58 rfl rfl ?_
    have hv4 := h.1
    have h := h.2
    refine al_i X hp ar_s316 hv4 dX8_counter_59 ?_
    refine lv_iconst (v := (nI 1)) hx hb dX8_counter_60 (by decide) ?_
    refine lv_iload_n hx hb dX8_counter_61 rfl (lv_at hl 1 rfl) ?_
    refine lv_ishl hx hb dX8_counter_62 ?_
    refine lv_ixor hx hb dX8_counter_63 ?_
    have hv5 := h.1
    have h := h.2
    refine as_i X hp ar_s316 hv5 dX8_counter_64 (fun H locs hp => ?_)
    obtain ⟨I6, e7⟩ : ∃ y, y = su I2 316 (nI 6).toNatClampNeg ((I2 316 (nI 6).toNatClampNeg) ^^^ ((nI 1) <<< (x1 &&& 31))) := ⟨_, rfl⟩
    have hp : PP E s H locs I6 := by rw [e7]; exact hp
    have h := h I6 e7
    refine lv_aload_n hx hb dX8_counter_65 rfl (lv_at hl 0 rfl) ?_
    refine f_X8_7 X hp dX8_counter_66 ?_
    refine lv_bipush (v := (nI 6)) hx hb dX8_counter_69 (by decide) ?_
    have hv8 := h.1
    have h := h.2
    refine al_i X hp ar_s316 hv8 dX8_counter_71 ?_
    exact rt_i X hp h dX8_counter_72
  · have h := h.2 c1
    refine lv_ldc (v := (-nI 1000002)) hx hb hown (hts _ tw_k_X8_144) dX8_counter_45 ?_
    exact rt_i X hp h dX8_counter_47
def wp_X8_counter (x1 : Int32) (x2 : Int32) (I : II) (Q : Int32 → II → Prop) : Prop := (wp_X8_isTeller x1 I (fun r2 I1 => ((r2 = 0 → (Q (-nI 1000001) I1)) ∧ (¬ r2 = 0 → (wp_X8_in x2.toInt64 (lN 0) (lN 1) I1 (fun r5 I4 => ((¬ r5 = 0 → (vp_in (nI 6) 1372 ∧ (wp_X8_has (I4 316 (nI 6).toNatClampNeg) x1 I4 (fun r9 I8 => ((¬ x2 = (nI 1) → (wp_X8_counter_42 Q x1 (nI 0) r9 I8)) ∧ (x2 = (nI 1) → (wp_X8_counter_42 Q x1 (nI 1) r9 I8))))))) ∧ (r5 = 0 → (Q (-nI 1000001) I4)))))))))
set_option maxHeartbeats 4000000 in
set_option maxRecDepth 100000 in
theorem w_X8_counter_0 {E : EE} {p : Program} {l : Launch} {e : Env} {s : State} {m : MethodId} {args : Array Value} {below : List Frame} {meth : Method} {c : Code} {Q : Int32 → II → Prop} (X : CX E p s m args meth c cX8_counter 3 (some .int) RX8) : ∀ (x1 : Int32) (x2 : Int32) (I : II) (H : Heap) (locs : List Loc) (ls : Array Slot), wp_X8_counter x1 x2 I Q → PP E s H locs I → lv_has ls 3 [(0, .ref (E.2.1 315)), (1, .int x1), (2, .int x2)] → W p l e rmX8_counter s m args below meth c H locs 0 0 (MQ below (va_Qi Q (BU E) E.2.2.2.1) args s 0 0 E.2.2.2.1) (F0 m 0 ls []) := by
  obtain ⟨⟨hx, hb, hml, hown, hts⟩, hr, hlk, hK, hST, hN⟩ := id X
  intro x1 x2 I H locs ls h hp hl
  unfold wp_X8_counter at h
  refine lv_aload_n hx hb dX8_counter_0 rfl (lv_at hl 0 rfl) ?_
  refine lv_iload_n hx hb dX8_counter_1 rfl (lv_at hl 1 rfl) ?_
  refine ki (kV (As := [.int x1]) (rest := []) X hp (C_X8_isTeller  h) tw_ml_X8_175 vf_X8_isTeller ⟨rfl, rfl, Nat.le_of_ble_eq_true rfl, Nat.le_of_ble_eq_true rfl⟩ (pr_rcv X hp (k := 315) (by decide) (ob_315 _) (q := (RX8, TX8, 18)) rfl) rfl hl.1 rfl (Nat.le_of_ble_eq_true rfl) dX8_counter_2) hp (fun r2 I1 H locs h hp => ?_)
  refine lv_if_eq (tgt := 18) hx hb dX8_counter_5 (by decide) (fun c3 => ?_) (fun c3 => ?_)
  · have h := h.1 c3
    refine lv_ldc (v := (-nI 1000001)) hx hb hown (hts _ tw_k_X8_55) dX8_counter_18 ?_
    exact rt_i X hp h dX8_counter_20
  · have h := h.2 c3
    refine lv_iload_n hx hb dX8_counter_8 rfl (lv_at hl 2 rfl) ?_
    refine lv_i2l (v := x2.toInt64) hx hb dX8_counter_9 rfl ?_
    refine lv_lconst (v := (lN 0)) hx hb dX8_counter_10 (by decide) ?_
    refine lv_lconst (v := (lN 1)) hx hb dX8_counter_11 (by decide) ?_
    refine ki (kS (As := [.long x2.toInt64, .long (lN 0), .long (lN 1)]) (rest := []) X hp (C_X8_in  h) tw_ml_X8_45 sf_X8_in ⟨rfl, rfl, Nat.le_of_ble_eq_true rfl, Nat.le_of_ble_eq_true rfl⟩ rfl hl.1 rfl (Nat.le_of_ble_eq_true rfl) dX8_counter_12) hp (fun r5 I4 H locs h hp => ?_)
    refine lv_if_ne (tgt := 21) hx hb dX8_counter_15 (by decide) (fun c6 => ?_) (fun c6 => ?_)
    · have h := h.1 c6
      refine lv_aload_n hx hb dX8_counter_21 rfl (lv_at hl 0 rfl) ?_
      refine f_X8_7 X hp dX8_counter_22 ?_
      refine lv_bipush (v := (nI 6)) hx hb dX8_counter_25 (by decide) ?_
      have hv7 := h.1
      have h := h.2
      refine al_i X hp ar_s316 hv7 dX8_counter_27 ?_
      refine lv_iload_n hx hb dX8_counter_28 rfl (lv_at hl 1 rfl) ?_
      refine ki (kS (As := [.int (I4 316 (nI 6).toNatClampNeg), .int x1]) (rest := []) X hp (C_X8_has  h) tw_ml_X8_150 sf_X8_has ⟨rfl, rfl, Nat.le_of_ble_eq_true rfl, Nat.le_of_ble_eq_true rfl⟩ rfl hl.1 rfl (Nat.le_of_ble_eq_true rfl) dX8_counter_29) hp (fun r9 I8 H locs h hp => ?_)
      refine lv_iload_n hx hb dX8_counter_32 rfl (lv_at hl 2 rfl) ?_
      refine lv_iconst (v := (nI 1)) hx hb dX8_counter_33 (by decide) ?_
      refine lv_icmp_ne (tgt := 41) hx hb dX8_counter_34 (by decide) (fun c10 => ?_) (fun c10 => ?_)
      · have h := h.1 c10
        refine lv_iconst (v := (nI 0)) hx hb dX8_counter_41 (by decide) ?_
        exact w_X8_counter_42 X  _ _ _ _ _ _ _ h hp (lv_sub hl [0, 1] rfl)
      · have h := h.2 c10
        refine lv_iconst (v := (nI 1)) hx hb dX8_counter_37 (by decide) ?_
        refine lv_goto (tgt := 42) hx hb dX8_counter_38 (by decide) ?_
        exact w_X8_counter_42 X  _ _ _ _ _ _ _ h hp (lv_sub hl [0, 1] rfl)
    · have h := h.2 c6
      refine lv_ldc (v := (-nI 1000001)) hx hb hown (hts _ tw_k_X8_55) dX8_counter_18 ?_
      exact rt_i X hp h dX8_counter_20
set_option maxRecDepth 100000 in
theorem C_X8_counter {E : EE} {l : Launch} {x1 : Int32} {x2 : Int32} {I : II} {Q : Int32 → II → Prop} (h : wp_X8_counter x1 x2 I Q) : Met l yX8_counter (Cond.code yX8_counter cX8_counter 3 (some .int) :: lwT) rmX8_counter (va_Pc [.ref (E.2.1 315), .int x1, .int x2] (PU E I)) (va_Qi Q (BU E) E.2.2.2.1) 0 0 E.2.2.2.1 :=
  ofWalk [.ref (E.2.1 315), .int x1, .int x2] (by decide) tw_c_X8_counter (Nat.le_of_ble_eq_true rfl) (fun p e s m below meth c ls X hp hl => w_X8_counter_0 X _ _ _ _ _ _ h hp hl)
abbrev rmX8_isWaiting : Room := { frames := 0, cells := 0, slots := 0, locals := 0 }
theorem vf_X8_isWaiting : VF yX8_isWaiting RX8 cX8_isWaiting 5 (some .boolean) 2 := ⟨tw_in_X8, tw_im_X8_isWaiting, tw_se_X8_isWaiting, tw_c_X8_isWaiting, by decide, by decide, by decide +kernel⟩
def wp_X8_isWaiting_44 (Q : Int32 → II → Prop) (k5 : Int32 → Int32 → Int32 → Int32 → II → Prop) (x1 : Int32) (x2 : Int32) (x4 : Int32) (v0 : Int32) (I : II) : Prop := (k5 x1 x2 v0 (x4 + (nI 1)) I)
set_option maxHeartbeats 4000000 in
set_option maxRecDepth 100000 in
theorem w_X8_isWaiting_44 {E : EE} {p : Program} {l : Launch} {e : Env} {s : State} {m : MethodId} {args : Array Value} {below : List Frame} {meth : Method} {c : Code} {Q : Int32 → II → Prop} {k5 : Int32 → Int32 → Int32 → Int32 → II → Prop} (X : CX E p s m args meth c cX8_isWaiting 5 (some .boolean) RX8) (K5 : ∀ (x1 : Int32) (x2 : Int32) (x3 : Int32) (x4 : Int32) (I : II) (H : Heap) (locs : List Loc) (ls : Array Slot), k5 x1 x2 x3 x4 I → PP E s H locs I → lv_has ls 5 [(0, .ref (E.2.1 315)), (1, .int x1), (2, .int x2), (3, .int x3), (4, .int x4)] → W p l e rmX8_isWaiting s m args below meth c H locs 0 0 (MQ below (va_Qi Q (BU E) E.2.2.2.1) args s 0 0 E.2.2.2.1) (F0 m 5 ls [])) : ∀ (x1 : Int32) (x2 : Int32) (x4 : Int32) (v0 : Int32) (I : II) (H : Heap) (locs : List Loc) (ls : Array Slot), wp_X8_isWaiting_44 Q k5 x1 x2 x4 v0 I → PP E s H locs I → lv_has ls 5 [(0, .ref (E.2.1 315)), (1, .int x1), (2, .int x2), (4, .int x4)] → W p l e rmX8_isWaiting s m args below meth c H locs 0 0 (MQ below (va_Qi Q (BU E) E.2.2.2.1) args s 0 0 E.2.2.2.1) (F0 m 44 ls [.int v0]) := by
  obtain ⟨⟨hx, hb, hml, hown, hts⟩, hr, hlk, hK, hST, hN⟩ := id X
  intro x1 x2 x4 v0 I H locs ls h hp hl
  unfold wp_X8_isWaiting_44 at h
  refine lv_istore_n (lv' := [(3, .int v0), (0, .ref (E.2.1 315)), (1, .int x1), (2, .int x2), (4, .int x4)]) hx hb dX8_isWaiting_44 rfl hl (by decide) rfl (fun ls hl => ?_)
  refine lv_iinc (v := (x4 + (nI 1))) (lv' := [(4, .int (x4 + (nI 1))), (3, .int v0), (0, .ref (E.2.1 315)), (1, .int x1), (2, .int x2)]) hx hb dX8_isWaiting_45 hl (k := 4) rfl rfl (by decide) rfl (fun ls hl => ?_)
  refine lv_goto (tgt := 5) hx hb dX8_isWaiting_48 (by decide) ?_
  exact K5 _ _ _ _ _ _ _ _ h hp (lv_sub hl [2, 3, 4, 1, 0] rfl)
def wp_X8_isWaiting_39 (Q : Int32 → II → Prop) (k5 : Int32 → Int32 → Int32 → Int32 → II → Prop) (x1 : Int32) (x2 : Int32) (x4 : Int32) (I : II) : Prop := (wp_X8_isWaiting_44 Q k5 x1 x2 x4 (nI 1) I)
set_option maxHeartbeats 4000000 in
set_option maxRecDepth 100000 in
theorem w_X8_isWaiting_39 {E : EE} {p : Program} {l : Launch} {e : Env} {s : State} {m : MethodId} {args : Array Value} {below : List Frame} {meth : Method} {c : Code} {Q : Int32 → II → Prop} {k5 : Int32 → Int32 → Int32 → Int32 → II → Prop} (X : CX E p s m args meth c cX8_isWaiting 5 (some .boolean) RX8) (K5 : ∀ (x1 : Int32) (x2 : Int32) (x3 : Int32) (x4 : Int32) (I : II) (H : Heap) (locs : List Loc) (ls : Array Slot), k5 x1 x2 x3 x4 I → PP E s H locs I → lv_has ls 5 [(0, .ref (E.2.1 315)), (1, .int x1), (2, .int x2), (3, .int x3), (4, .int x4)] → W p l e rmX8_isWaiting s m args below meth c H locs 0 0 (MQ below (va_Qi Q (BU E) E.2.2.2.1) args s 0 0 E.2.2.2.1) (F0 m 5 ls [])) : ∀ (x1 : Int32) (x2 : Int32) (x4 : Int32) (I : II) (H : Heap) (locs : List Loc) (ls : Array Slot), wp_X8_isWaiting_39 Q k5 x1 x2 x4 I → PP E s H locs I → lv_has ls 5 [(0, .ref (E.2.1 315)), (1, .int x1), (2, .int x2), (4, .int x4)] → W p l e rmX8_isWaiting s m args below meth c H locs 0 0 (MQ below (va_Qi Q (BU E) E.2.2.2.1) args s 0 0 E.2.2.2.1) (F0 m 39 ls []) := by
  obtain ⟨⟨hx, hb, hml, hown, hts⟩, hr, hlk, hK, hST, hN⟩ := id X
  intro x1 x2 x4 I H locs ls h hp hl
  unfold wp_X8_isWaiting_39 at h
  refine lv_iconst (v := (nI 1)) hx hb dX8_isWaiting_39 (by decide) ?_
  refine lv_goto (tgt := 44) hx hb dX8_isWaiting_40 (by decide) ?_
  exact w_X8_isWaiting_44 X K5 _ _ _ _ _ _ _ _ h hp (lv_sub hl [0, 1, 2, 3] rfl)
def wp_X8_isWaiting_5 (Q : Int32 → II → Prop) (k51 : Int32 → II → Prop) : Nat → Int32 → Int32 → Int32 → Int32 → II → Prop
  | 0, _, _, _, _, _ => False
  | n + 1, x1, x2, x3, x4, I => (vp_in (x1 + (nI 7)) 1372 ∧ (((I 316 (x1 + (nI 7)).toNatClampNeg) ≤ x4 → (k51 x3 I)) ∧ (¬ (I 316 (x1 + (nI 7)).toNatClampNeg) ≤ x4 → ((¬ x3 = 0 → (wp_X8_isWaiting_39 Q (fun x1 x2 x3 x4 I => wp_X8_isWaiting_5 Q k51 n x1 x2 x3 x4 I) x1 x2 x4 I)) ∧ (x3 = 0 → (vp_in ((x1 + (nI 8)) + x4) 1372 ∧ ((¬ (I 316 ((x1 + (nI 8)) + x4).toNatClampNeg) = x2 → (wp_X8_isWaiting_44 Q (fun x1 x2 x3 x4 I => wp_X8_isWaiting_5 Q k51 n x1 x2 x3 x4 I) x1 x2 x4 (nI 0) I)) ∧ ((I 316 ((x1 + (nI 8)) + x4).toNatClampNeg) = x2 → (wp_X8_isWaiting_39 Q (fun x1 x2 x3 x4 I => wp_X8_isWaiting_5 Q k51 n x1 x2 x3 x4 I) x1 x2 x4 I)))))))))
set_option maxHeartbeats 4000000 in
set_option maxRecDepth 100000 in
theorem w_X8_isWaiting_5 {E : EE} {p : Program} {l : Launch} {e : Env} {s : State} {m : MethodId} {args : Array Value} {below : List Frame} {meth : Method} {c : Code} {Q : Int32 → II → Prop} {k51 : Int32 → II → Prop} (X : CX E p s m args meth c cX8_isWaiting 5 (some .boolean) RX8) (K51 : ∀ (x3 : Int32) (I : II) (H : Heap) (locs : List Loc) (ls : Array Slot), k51 x3 I → PP E s H locs I → lv_has ls 5 [(3, .int x3)] → W p l e rmX8_isWaiting s m args below meth c H locs 0 0 (MQ below (va_Qi Q (BU E) E.2.2.2.1) args s 0 0 E.2.2.2.1) (F0 m 51 ls [])) : ∀ (n : Nat) (x1 : Int32) (x2 : Int32) (x3 : Int32) (x4 : Int32) (I : II) (H : Heap) (locs : List Loc) (ls : Array Slot), wp_X8_isWaiting_5 Q k51 n x1 x2 x3 x4 I → PP E s H locs I → lv_has ls 5 [(0, .ref (E.2.1 315)), (1, .int x1), (2, .int x2), (3, .int x3), (4, .int x4)] → W p l e rmX8_isWaiting s m args below meth c H locs 0 0 (MQ below (va_Qi Q (BU E) E.2.2.2.1) args s 0 0 E.2.2.2.1) (F0 m 5 ls []) := by
  obtain ⟨⟨hx, hb, hml, hown, hts⟩, hr, hlk, hK, hST, hN⟩ := id X
  intro n
  induction n with
  | zero =>
    intro x1 x2 x3 x4 I H locs ls h hp hl
    exact False.elim h
  | succ n ih =>
    intro x1 x2 x3 x4 I H locs ls h hp hl
    rw [wp_X8_isWaiting_5.eq_2] at h
    refine lv_iload hx hb dX8_isWaiting_5 (lv_at hl 4 rfl) ?_
    refine lv_aload_n hx hb dX8_isWaiting_7 rfl (lv_at hl 0 rfl) ?_
    refine f_X8_7 X hp dX8_isWaiting_8 ?_
    refine lv_iload_n hx hb dX8_isWaiting_11 rfl (lv_at hl 1 rfl) ?_
    refine lv_bipush (v := (nI 7)) hx hb dX8_isWaiting_12 (by decide) ?_
    refine lv_iadd hx hb dX8_isWaiting_14 ?_
    have hv1 := h.1
    have h := h.2
    refine al_i X hp ar_s316 hv1 dX8_isWaiting_15 ?_
    refine lv_icmp_ge (tgt := 51) hx hb dX8_isWaiting_16 (by decide) (fun c2 => ?_) (fun c2 => ?_)
    · have h := h.1 c2
      exact K51 _ _ _ _ _ h hp (lv_sub hl [3] rfl)
    · have h := h.2 c2
      refine lv_iload_n hx hb dX8_isWaiting_19 rfl (lv_at hl 3 rfl) ?_
      refine lv_if_ne (tgt := 39) hx hb dX8_isWaiting_20 (by decide) (fun c3 => ?_) (fun c3 => ?_)
      · have h := h.1 c3
        exact w_X8_isWaiting_39 X ih _ _ _ _ _ _ _ h hp (lv_sub hl [0, 1, 2, 4] rfl)
      · have h := h.2 c3
        refine lv_aload_n hx hb dX8_isWaiting_23 rfl (lv_at hl 0 rfl) ?_
        refine f_X8_7 X hp dX8_isWaiting_24 ?_
        refine lv_iload_n hx hb dX8_isWaiting_27 rfl (lv_at hl 1 rfl) ?_
        refine lv_bipush (v := (nI 8)) hx hb dX8_isWaiting_28 (by decide) ?_
        refine lv_iadd hx hb dX8_isWaiting_30 ?_
        refine lv_iload hx hb dX8_isWaiting_31 (lv_at hl 4 rfl) ?_
        refine lv_iadd hx hb dX8_isWaiting_33 ?_
        have hv4 := h.1
        have h := h.2
        refine al_i X hp ar_s316 hv4 dX8_isWaiting_34 ?_
        refine lv_iload_n hx hb dX8_isWaiting_35 rfl (lv_at hl 2 rfl) ?_
        refine lv_icmp_ne (tgt := 43) hx hb dX8_isWaiting_36 (by decide) (fun c5 => ?_) (fun c5 => ?_)
        · have h := h.1 c5
          refine lv_iconst (v := (nI 0)) hx hb dX8_isWaiting_43 (by decide) ?_
          exact w_X8_isWaiting_44 X ih _ _ _ _ _ _ _ _ h hp (lv_sub hl [0, 1, 2, 4] rfl)
        · have h := h.2 c5
          exact w_X8_isWaiting_39 X ih _ _ _ _ _ _ _ h hp (lv_sub hl [0, 1, 2, 4] rfl)
def wp_X8_isWaiting (x1 : Int32) (x2 : Int32) (I : II) (Q : Int32 → II → Prop) : Prop := (∃ n51, wp_X8_isWaiting_5 Q (fun x3 I => (isb x3 ∧ Q x3 I)) n51 x1 x2 (nI 0) (nI 0) I)
set_option maxHeartbeats 4000000 in
set_option maxRecDepth 100000 in
theorem w_X8_isWaiting_0 {E : EE} {p : Program} {l : Launch} {e : Env} {s : State} {m : MethodId} {args : Array Value} {below : List Frame} {meth : Method} {c : Code} {Q : Int32 → II → Prop} (X : CX E p s m args meth c cX8_isWaiting 5 (some .boolean) RX8) : ∀ (x1 : Int32) (x2 : Int32) (I : II) (H : Heap) (locs : List Loc) (ls : Array Slot), wp_X8_isWaiting x1 x2 I Q → PP E s H locs I → lv_has ls 5 [(0, .ref (E.2.1 315)), (1, .int x1), (2, .int x2)] → W p l e rmX8_isWaiting s m args below meth c H locs 0 0 (MQ below (va_Qi Q (BU E) E.2.2.2.1) args s 0 0 E.2.2.2.1) (F0 m 0 ls []) := by
  obtain ⟨⟨hx, hb, hml, hown, hts⟩, hr, hlk, hK, hST, hN⟩ := id X
  intro x1 x2 I H locs ls h hp hl
  unfold wp_X8_isWaiting at h
  refine lv_iconst (v := (nI 0)) hx hb dX8_isWaiting_0 (by decide) ?_
  refine lv_istore_n (lv' := [(3, .int (nI 0)), (0, .ref (E.2.1 315)), (1, .int x1), (2, .int x2)]) hx hb dX8_isWaiting_1 rfl hl (by decide) rfl (fun ls hl => ?_)
  refine lv_iconst (v := (nI 0)) hx hb dX8_isWaiting_2 (by decide) ?_
  refine lv_istore (lv' := [(4, .int (nI 0)), (3, .int (nI 0)), (0, .ref (E.2.1 315)), (1, .int x1), (2, .int x2)]) hx hb dX8_isWaiting_3 hl (by decide) rfl (fun ls hl => ?_)
  obtain ⟨n51, h⟩ := h
  refine w_X8_isWaiting_5 X ?_ n51 _ _ _ _ _ _ _ _ h hp (lv_sub hl [2, 3, 4, 1, 0] rfl)
  · intro x3 I H locs ls h hp hl
    refine lv_iload_n hx hb dX8_isWaiting_51 rfl (lv_at hl 0 rfl) ?_
    exact rt_z X hp h dX8_isWaiting_52
set_option maxRecDepth 100000 in
theorem C_X8_isWaiting {E : EE} {l : Launch} {x1 : Int32} {x2 : Int32} {I : II} {Q : Int32 → II → Prop} (h : wp_X8_isWaiting x1 x2 I Q) : Met l yX8_isWaiting (Cond.code yX8_isWaiting cX8_isWaiting 5 (some .boolean) :: lwT) rmX8_isWaiting (va_Pc [.ref (E.2.1 315), .int x1, .int x2] (PU E I)) (va_Qi Q (BU E) E.2.2.2.1) 0 0 E.2.2.2.1 :=
  ofWalk [.ref (E.2.1 315), .int x1, .int x2] (by decide) tw_c_X8_isWaiting (Nat.le_of_ble_eq_true rfl) (fun p e s m below meth c ls X hp hl => w_X8_isWaiting_0 X _ _ _ _ _ _ h hp hl)
abbrev rmX8_comes : Room := { frames := 1, cells := 0, slots := 0, locals := 24 }
theorem vf_X8_comes : VF yX8_comes RX8 cX8_comes 5 (some .int) 3 := ⟨tw_in_X8, tw_im_X8_comes, tw_se_X8_comes, tw_c_X8_comes, by decide, by decide, by decide +kernel⟩
def wp_X8_comes_3 (Q : Int32 → II → Prop) (k19 : Int32 → Int32 → Int32 → Int32 → II → Prop) : Nat → Int32 → Int32 → Int32 → Int32 → II → Prop
  | 0, _, _, _, _, _ => False
  | n + 1, x1, x2, x3, x4, I => (wp_X8_isWaiting x1 x4 I (fun r2 I1 => ((r2 = 0 → (k19 x1 x2 x3 x4 I1)) ∧ (¬ r2 = 0 → (wp_X8_comes_3 Q k19 n x1 x2 x3 (x4 + (nI 1)) I1)))))
set_option maxHeartbeats 4000000 in
set_option maxRecDepth 100000 in
theorem w_X8_comes_3 {E : EE} {p : Program} {l : Launch} {e : Env} {s : State} {m : MethodId} {args : Array Value} {below : List Frame} {meth : Method} {c : Code} {Q : Int32 → II → Prop} {k19 : Int32 → Int32 → Int32 → Int32 → II → Prop} (X : CX E p s m args meth c cX8_comes 5 (some .int) RX8) (K19 : ∀ (x1 : Int32) (x2 : Int32) (x3 : Int32) (x4 : Int32) (I : II) (H : Heap) (locs : List Loc) (ls : Array Slot), k19 x1 x2 x3 x4 I → PP E s H locs I → lv_has ls 5 [(0, .ref (E.2.1 315)), (1, .int x1), (2, .int x2), (3, .int x3), (4, .int x4)] → W p l e rmX8_comes s m args below meth c H locs 0 0 (MQ below (va_Qi Q (BU E) E.2.2.2.1) args s 0 0 E.2.2.2.1) (F0 m 19 ls [])) : ∀ (n : Nat) (x1 : Int32) (x2 : Int32) (x3 : Int32) (x4 : Int32) (I : II) (H : Heap) (locs : List Loc) (ls : Array Slot), wp_X8_comes_3 Q k19 n x1 x2 x3 x4 I → PP E s H locs I → lv_has ls 5 [(0, .ref (E.2.1 315)), (1, .int x1), (2, .int x2), (3, .int x3), (4, .int x4)] → W p l e rmX8_comes s m args below meth c H locs 0 0 (MQ below (va_Qi Q (BU E) E.2.2.2.1) args s 0 0 E.2.2.2.1) (F0 m 3 ls []) := by
  obtain ⟨⟨hx, hb, hml, hown, hts⟩, hr, hlk, hK, hST, hN⟩ := id X
  intro n
  induction n with
  | zero =>
    intro x1 x2 x3 x4 I H locs ls h hp hl
    exact False.elim h
  | succ n ih =>
    intro x1 x2 x3 x4 I H locs ls h hp hl
    rw [wp_X8_comes_3.eq_2] at h
    refine lv_aload_n hx hb dX8_comes_3 rfl (lv_at hl 0 rfl) ?_
    refine lv_iload_n hx hb dX8_comes_4 rfl (lv_at hl 1 rfl) ?_
    refine lv_iload hx hb dX8_comes_5 (lv_at hl 4 rfl) ?_
    refine ki (kV (As := [.int x1, .int x4]) (rest := []) X hp (C_X8_isWaiting  h) tw_ml_X8_178 vf_X8_isWaiting ⟨rfl, rfl, Nat.le_of_ble_eq_true rfl, Nat.le_of_ble_eq_true rfl⟩ (pr_rcv X hp (k := 315) (by decide) (ob_315 _) (q := (RX8, TX8, 18)) rfl) rfl hl.1 rfl (Nat.le_of_ble_eq_true rfl) dX8_comes_7) hp (fun r2 I1 H locs h hp => ?_)
    refine lv_if_eq (tgt := 19) hx hb dX8_comes_10 (by decide) (fun c3 => ?_) (fun c3 => ?_)
    · have h := h.1 c3
      exact K19 _ _ _ _ _ _ _ _ h hp (lv_sub hl [0, 1, 2, 3, 4] rfl)
    · have h := h.2 c3
      refine lv_iinc (v := (x4 + (nI 1))) (lv' := [(4, .int (x4 + (nI 1))), (0, .ref (E.2.1 315)), (1, .int x1), (2, .int x2), (3, .int x3)]) hx hb dX8_comes_13 hl (k := 4) rfl rfl (by decide) rfl (fun ls hl => ?_)
      refine lv_goto (tgt := 3) hx hb dX8_comes_16 (by decide) ?_
      exact ih _ _ _ _ _ _ _ _ h hp (lv_sub hl [1, 2, 3, 4, 0] rfl)
def wp_X8_comes (x1 : Int32) (x2 : Int32) (x3 : Int32) (I : II) (Q : Int32 → II → Prop) : Prop := (∃ n65, wp_X8_comes_3 Q (fun x1 x2 x3 x4 I => (vp_in ((x1 + (nI 15)) + x4) 1372 ∧ ∀ I52 : II, I52 = su I 316 ((x1 + (nI 15)) + x4).toNatClampNeg x3 → (vp_in ((x1 + (nI 22)) + x4) 1372 ∧ ∀ I55 : II, I55 = su I52 316 ((x1 + (nI 22)) + x4).toNatClampNeg x2 → (vp_in (x1 + (nI 7)) 1372 ∧ (vp_in ((x1 + (nI 8)) + (I55 316 (x1 + (nI 7)).toNatClampNeg)) 1372 ∧ ∀ I59 : II, I59 = su I55 316 ((x1 + (nI 8)) + (I55 316 (x1 + (nI 7)).toNatClampNeg)).toNatClampNeg x4 → (vp_in (x1 + (nI 7)) 1372 ∧ (vp_in (x1 + (nI 7)) 1372 ∧ ∀ I63 : II, I63 = su I59 316 (x1 + (nI 7)).toNatClampNeg ((I59 316 (x1 + (nI 7)).toNatClampNeg) + (nI 1)) → (Q x4 I63)))))))) n65 x1 x2 x3 (nI 0) I)
set_option maxHeartbeats 4000000 in
set_option maxRecDepth 100000 in
theorem w_X8_comes_0 {E : EE} {p : Program} {l : Launch} {e : Env} {s : State} {m : MethodId} {args : Array Value} {below : List Frame} {meth : Method} {c : Code} {Q : Int32 → II → Prop} (X : CX E p s m args meth c cX8_comes 5 (some .int) RX8) : ∀ (x1 : Int32) (x2 : Int32) (x3 : Int32) (I : II) (H : Heap) (locs : List Loc) (ls : Array Slot), wp_X8_comes x1 x2 x3 I Q → PP E s H locs I → lv_has ls 5 [(0, .ref (E.2.1 315)), (1, .int x1), (2, .int x2), (3, .int x3)] → W p l e rmX8_comes s m args below meth c H locs 0 0 (MQ below (va_Qi Q (BU E) E.2.2.2.1) args s 0 0 E.2.2.2.1) (F0 m 0 ls []) := by
  obtain ⟨⟨hx, hb, hml, hown, hts⟩, hr, hlk, hK, hST, hN⟩ := id X
  intro x1 x2 x3 I H locs ls h hp hl
  unfold wp_X8_comes at h
  refine lv_iconst (v := (nI 0)) hx hb dX8_comes_0 (by decide) ?_
  refine lv_istore (lv' := [(4, .int (nI 0)), (0, .ref (E.2.1 315)), (1, .int x1), (2, .int x2), (3, .int x3)]) hx hb dX8_comes_1 hl (by decide) rfl (fun ls hl => ?_)
  obtain ⟨n65, h⟩ := h
  refine w_X8_comes_3 X ?_ n65 _ _ _ _ _ _ _ _ h hp (lv_sub hl [1, 2, 3, 4, 0] rfl)
  · intro x1 x2 x3 x4 I H locs ls h hp hl
    refine lv_aload_n hx hb dX8_comes_19 rfl (lv_at hl 0 rfl) ?_
    refine f_X8_7 X hp dX8_comes_20 ?_
    refine lv_iload_n hx hb dX8_comes_23 rfl (lv_at hl 1 rfl) ?_
    refine lv_bipush (v := (nI 15)) hx hb dX8_comes_24 (by decide) ?_
    refine lv_iadd hx hb dX8_comes_26 ?_
    refine lv_iload hx hb dX8_comes_27 (lv_at hl 4 rfl) ?_
    refine lv_iadd hx hb dX8_comes_29 ?_
    refine lv_iload_n hx hb dX8_comes_30 rfl (lv_at hl 3 rfl) ?_
    have hv51 := h.1
    have h := h.2
    refine as_i X hp ar_s316 hv51 dX8_comes_31 (fun H locs hp => ?_)
    obtain ⟨I52, e53⟩ : ∃ y, y = su I 316 ((x1 + (nI 15)) + x4).toNatClampNeg x3 := ⟨_, rfl⟩
    have hp : PP E s H locs I52 := by rw [e53]; exact hp
    have h := h I52 e53
    refine lv_aload_n hx hb dX8_comes_32 rfl (lv_at hl 0 rfl) ?_
    refine f_X8_7 X hp dX8_comes_33 ?_
    refine lv_iload_n hx hb dX8_comes_36 rfl (lv_at hl 1 rfl) ?_
    refine lv_bipush (v := (nI 22)) hx hb dX8_comes_37 (by decide) ?_
    refine lv_iadd hx hb dX8_comes_39 ?_
    refine lv_iload hx hb dX8_comes_40 (lv_at hl 4 rfl) ?_
    refine lv_iadd hx hb dX8_comes_42 ?_
    refine lv_iload_n hx hb dX8_comes_43 rfl (lv_at hl 2 rfl) ?_
    have hv54 := h.1
    have h := h.2
    refine as_i X hp ar_s316 hv54 dX8_comes_44 (fun H locs hp => ?_)
    obtain ⟨I55, e56⟩ : ∃ y, y = su I52 316 ((x1 + (nI 22)) + x4).toNatClampNeg x2 := ⟨_, rfl⟩
    have hp : PP E s H locs I55 := by rw [e56]; exact hp
    have h := h I55 e56
    refine lv_aload_n hx hb dX8_comes_45 rfl (lv_at hl 0 rfl) ?_
    refine f_X8_7 X hp dX8_comes_46 ?_
    refine lv_iload_n hx hb dX8_comes_49 rfl (lv_at hl 1 rfl) ?_
    refine lv_bipush (v := (nI 8)) hx hb dX8_comes_50 (by decide) ?_
    refine lv_iadd hx hb dX8_comes_52 ?_
    refine lv_aload_n hx hb dX8_comes_53 rfl (lv_at hl 0 rfl) ?_
    refine f_X8_7 X hp dX8_comes_54 ?_
    refine lv_iload_n hx hb dX8_comes_57 rfl (lv_at hl 1 rfl) ?_
    refine lv_bipush (v := (nI 7)) hx hb dX8_comes_58 (by decide) ?_
    refine lv_iadd hx hb dX8_comes_60 ?_
    have hv57 := h.1
    have h := h.2
    refine al_i X hp ar_s316 hv57 dX8_comes_61 ?_
    refine lv_iadd hx hb dX8_comes_62 ?_
    refine lv_iload hx hb dX8_comes_63 (lv_at hl 4 rfl) ?_
    have hv58 := h.1
    have h := h.2
    refine as_i X hp ar_s316 hv58 dX8_comes_65 (fun H locs hp => ?_)
    obtain ⟨I59, e60⟩ : ∃ y, y = su I55 316 ((x1 + (nI 8)) + (I55 316 (x1 + (nI 7)).toNatClampNeg)).toNatClampNeg x4 := ⟨_, rfl⟩
    have hp : PP E s H locs I59 := by rw [e60]; exact hp
    have h := h I59 e60
    refine lv_aload_n hx hb dX8_comes_66 rfl (lv_at hl 0 rfl) ?_
    refine f_X8_7 X hp dX8_comes_67 ?_
    refine lv_iload_n hx hb dX8_comes_70 rfl (lv_at hl 1 rfl) ?_
    refine lv_bipush (v := (nI 7)) hx hb dX8_comes_71 (by decide) ?_
    refine lv_iadd hx hb dX8_comes_73 ?_
    refine lv_dup2_11 hx hb dX8_comes_74 rfl rfl ?_
    have hv61 := h.1
    have h := h.2
    refine al_i X hp ar_s316 hv61 dX8_comes_75 ?_
    refine lv_iconst (v := (nI 1)) hx hb dX8_comes_76 (by decide) ?_
    refine lv_iadd hx hb dX8_comes_77 ?_
    have hv62 := h.1
    have h := h.2
    refine as_i X hp ar_s316 hv62 dX8_comes_78 (fun H locs hp => ?_)
    obtain ⟨I63, e64⟩ : ∃ y, y = su I59 316 (x1 + (nI 7)).toNatClampNeg ((I59 316 (x1 + (nI 7)).toNatClampNeg) + (nI 1)) := ⟨_, rfl⟩
    have hp : PP E s H locs I63 := by rw [e64]; exact hp
    have h := h I63 e64
    refine lv_iload hx hb dX8_comes_79 (lv_at hl 4 rfl) ?_
    exact rt_i X hp h dX8_comes_81
set_option maxRecDepth 100000 in
theorem C_X8_comes {E : EE} {l : Launch} {x1 : Int32} {x2 : Int32} {x3 : Int32} {I : II} {Q : Int32 → II → Prop} (h : wp_X8_comes x1 x2 x3 I Q) : Met l yX8_comes (Cond.code yX8_comes cX8_comes 5 (some .int) :: lwT) rmX8_comes (va_Pc [.ref (E.2.1 315), .int x1, .int x2, .int x3] (PU E I)) (va_Qi Q (BU E) E.2.2.2.1) 0 0 E.2.2.2.1 :=
  ofWalk [.ref (E.2.1 315), .int x1, .int x2, .int x3] (by decide) tw_c_X8_comes (Nat.le_of_ble_eq_true rfl) (fun p e s m below meth c ls X hp hl => w_X8_comes_0 X _ _ _ _ _ _ _ h hp hl)

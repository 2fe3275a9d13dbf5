abbrev rmX0_bodyFor : Room := { frames := 0, cells := 0, slots := 0, locals := 0 }
theorem sf_X0_bodyFor : SF yX0_bodyFor cX0_bodyFor 5 (some .int) 2 := ⟨tw_in_X0, tw_st_X0_bodyFor, tw_c_X0_bodyFor, by decide, by decide, by decide +kernel⟩
def wp_X0_bodyFor_37 (Q : Int32 → II → Prop) (k4 : Int32 → Int32 → Int32 → II → Prop) (k44 : Int32 → II → Prop) (x1 : Int32) (x2 : Int32) (x3 : Int32) (v0 : Int32) (I : II) : Prop := ((v0 = 0 → (vp_in x2 6 ∧ (k4 x1 (stA x2.toNatClampNeg) (x3 + (nI 1)) I))) ∧ (¬ v0 = 0 → (k44 v0 I)))
set_option maxHeartbeats 4000000 in
set_option maxRecDepth 100000 in
theorem w_X0_bodyFor_37 {E : EE} {p : Program} {l : Launch} {e : Env} {s : State} {m : MethodId} {args : Array Value} {below : List Frame} {meth : Method} {c : Code} {Q : Int32 → II → Prop} {k4 : Int32 → Int32 → Int32 → II → Prop} {k44 : Int32 → II → Prop} (X : CX E p s m args meth c cX0_bodyFor 5 (some .int) RX0) (K4 : ∀ (x1 : Int32) (x2 : Int32) (x3 : Int32) (I : II) (H : Heap) (locs : List Loc) (ls : Array Slot), k4 x1 x2 x3 I → PP E s H locs I → lv_has ls 5 [(1, .int x1), (2, .int x2), (3, .int x3)] → W p l e rmX0_bodyFor s m args below meth c H locs 0 0 (MQ below (va_Qi Q (BU E) E.2.2.2.1) args s 0 0 E.2.2.2.1) (F0 m 4 ls [])) (K44 : ∀ (x4 : Int32) (I : II) (H : Heap) (locs : List Loc) (ls : Array Slot), k44 x4 I → PP E s H locs I → lv_has ls 5 [(4, .int x4)] → W p l e rmX0_bodyFor s m args below meth c H locs 0 0 (MQ below (va_Qi Q (BU E) E.2.2.2.1) args s 0 0 E.2.2.2.1) (F0 m 44 ls [])) : ∀ (x1 : Int32) (x2 : Int32) (x3 : Int32) (v0 : Int32) (I : II) (H : Heap) (locs : List Loc) (ls : Array Slot), wp_X0_bodyFor_37 Q k4 k44 x1 x2 x3 v0 I → PP E s H locs I → lv_has ls 5 [(1, .int x1), (2, .int x2), (3, .int x3)] → W p l e rmX0_bodyFor s m args below meth c H locs 0 0 (MQ below (va_Qi Q (BU E) E.2.2.2.1) args s 0 0 E.2.2.2.1) (F0 m 37 ls [.int v0]) := by
  obtain ⟨⟨hx, hb, hml, hown, hts⟩, hr, hlk, hK, hST, hN⟩ := id X
  intro x1 x2 x3 v0 I H locs ls h hp hl
  unfold wp_X0_bodyFor_37 at h
  refine lv_istore (lv' := [(4, .int v0), (1, .int x1), (2, .int x2), (3, .int x3)]) hx hb dX0_bodyFor_37 hl (by decide) rfl (fun ls hl => ?_)
  refine lv_iload hx hb dX0_bodyFor_39 (lv_at hl 0 rfl) ?_
  refine lv_if_eq (tgt := 47) hx hb dX0_bodyFor_41 (by decide) (fun c1 => ?_) (fun c1 => ?_)
  · have h := h.1 c1
    refine gs_X0_46 X hp dX0_bodyFor_47 ?_
    refine lv_iload_n hx hb dX0_bodyFor_50 rfl (lv_at hl 2 rfl) ?_
    have hv2 := h.1
    have h := h.2
    refine va_ti hx hb hST.1.2 hp.2.2 hv2 (v := .int (stA x2.toNatClampNeg)) rfl dX0_bodyFor_51 ?_
    refine lv_istore_n (lv' := [(2, .int (stA x2.toNatClampNeg)), (4, .int v0), (1, .int x1), (3, .int x3)]) hx hb dX0_bodyFor_52 rfl hl (by decide) rfl (fun ls hl => ?_)
    refine lv_iinc (v := (x3 + (nI 1))) (lv' := [(3, .int (x3 + (nI 1))), (2, .int (stA x2.toNatClampNeg)), (4, .int v0), (1, .int x1)]) hx hb dX0_bodyFor_53 hl (k := 3) rfl rfl (by decide) rfl (fun ls hl => ?_)
    refine lv_goto (tgt := 4) hx hb dX0_bodyFor_56 (by decide) ?_
    exact K4 _ _ _ _ _ _ _ h hp (lv_sub hl [3, 1, 0] rfl)
  · have h := h.2 c1
    exact K44 _ _ _ _ _ h hp (lv_sub hl [0] rfl)
def wp_X0_bodyFor_4 (Q : Int32 → II → Prop) (k44 : Int32 → II → Prop) (k59 : II → Prop) : Nat → Int32 → Int32 → Int32 → II → Prop
  | 0, _, _, _, _ => False
  | n + 1, x1, x2, x3, I => (((nI 6) ≤ x3 → (k59 I)) ∧ (¬ (nI 6) ≤ x3 → ((x2 < 0 → (k59 I)) ∧ (¬ x2 < 0 → (((nI 6) ≤ x2 → (k59 I)) ∧ (¬ (nI 6) ≤ x2 → ((¬ x1 = 0 → (vp_in x2 6 ∧ (wp_X0_bodyFor_37 Q (fun x1 x2 x3 I => wp_X0_bodyFor_4 Q k44 k59 n x1 x2 x3 I) k44 x1 x2 x3 (stM x2.toNatClampNeg) I))) ∧ (x1 = 0 → (vp_in x2 6 ∧ (wp_X0_bodyFor_37 Q (fun x1 x2 x3 I => wp_X0_bodyFor_4 Q k44 k59 n x1 x2 x3 I) k44 x1 x2 x3 (stS x2.toNatClampNeg) I))))))))))
set_option maxHeartbeats 4000000 in
set_option maxRecDepth 100000 in
theorem w_X0_bodyFor_4 {E : EE} {p : Program} {l : Launch} {e : Env} {s : State} {m : MethodId} {args : Array Value} {below : List Frame} {meth : Method} {c : Code} {Q : Int32 → II → Prop} {k44 : Int32 → II → Prop} {k59 : II → Prop} (X : CX E p s m args meth c cX0_bodyFor 5 (some .int) RX0) (K44 : ∀ (x4 : Int32) (I : II) (H : Heap) (locs : List Loc) (ls : Array Slot), k44 x4 I → PP E s H locs I → lv_has ls 5 [(4, .int x4)] → W p l e rmX0_bodyFor s m args below meth c H locs 0 0 (MQ below (va_Qi Q (BU E) E.2.2.2.1) args s 0 0 E.2.2.2.1) (F0 m 44 ls [])) (K59 : ∀ (I : II) (H : Heap) (locs : List Loc) (ls : Array Slot), k59 I → PP E s H locs I → lv_has ls 5 [] → W p l e rmX0_bodyFor s m args below meth c H locs 0 0 (MQ below (va_Qi Q (BU E) E.2.2.2.1) args s 0 0 E.2.2.2.1) (F0 m 59 ls [])) : ∀ (n : Nat) (x1 : Int32) (x2 : Int32) (x3 : Int32) (I : II) (H : Heap) (locs : List Loc) (ls : Array Slot), wp_X0_bodyFor_4 Q k44 k59 n x1 x2 x3 I → PP E s H locs I → lv_has ls 5 [(1, .int x1), (2, .int x2), (3, .int x3)] → W p l e rmX0_bodyFor s m args below meth c H locs 0 0 (MQ below (va_Qi Q (BU E) E.2.2.2.1) args s 0 0 E.2.2.2.1) (F0 m 4 ls []) := by
  obtain ⟨⟨hx, hb, hml, hown, hts⟩, hr, hlk, hK, hST, hN⟩ := id X
  intro n
  induction n with
  | zero =>
    intro x1 x2 x3 I H locs ls h hp hl
    exact False.elim h
  | succ n ih =>
    intro x1 x2 x3 I H locs ls h hp hl
    rw [wp_X0_bodyFor_4.eq_2] at h
    refine lv_iload_n hx hb dX0_bodyFor_4 rfl (lv_at hl 2 rfl) ?_
    refine lv_bipush (v := (nI 6)) hx hb dX0_bodyFor_5 (by decide) ?_
    refine lv_icmp_ge (tgt := 59) hx hb dX0_bodyFor_7 (by decide) (fun c1 => ?_) (fun c1 => ?_)
    · have h := h.1 c1
      exact K59 _ _ _ _ h hp (lv_sub hl [] rfl)
    · have h := h.2 c1
      refine lv_iload_n hx hb dX0_bodyFor_10 rfl (lv_at hl 1 rfl) ?_
      refine lv_if_lt (tgt := 59) hx hb dX0_bodyFor_11 (by decide) (fun c2 => ?_) (fun c2 => ?_)
      · have h := h.1 c2
        exact K59 _ _ _ _ h hp (lv_sub hl [] rfl)
      · have h := h.2 c2
        refine lv_iload_n hx hb dX0_bodyFor_14 rfl (lv_at hl 1 rfl) ?_
        refine lv_bipush (v := (nI 6)) hx hb dX0_bodyFor_15 (by decide) ?_
        refine lv_icmp_ge (tgt := 59) hx hb dX0_bodyFor_17 (by decide) (fun c3 => ?_) (fun c3 => ?_)
        · have h := h.1 c3
          exact K59 _ _ _ _ h hp (lv_sub hl [] rfl)
        · have h := h.2 c3
          refine lv_iload_n hx hb dX0_bodyFor_20 rfl (lv_at hl 0 rfl) ?_
          refine lv_if_ne (tgt := 32) hx hb dX0_bodyFor_21 (by decide) (fun c4 => ?_) (fun c4 => ?_)
          · have h := h.1 c4
            refine gs_X0_43 X hp dX0_bodyFor_32 ?_
            refine lv_iload_n hx hb dX0_bodyFor_35 rfl (lv_at hl 1 rfl) ?_
            have hv5 := h.1
            have h := h.2
            refine va_ti hx hb hST.2.2.2 hp.2.2 hv5 (v := .int (stM x2.toNatClampNeg)) rfl dX0_bodyFor_36 ?_
            exact w_X0_bodyFor_37 X ih K44 _ _ _ _ _ _ _ _ h hp (lv_sub hl [0, 1, 2] rfl)
          · have h := h.2 c4
            refine gs_X0_40 X hp dX0_bodyFor_24 ?_
            refine lv_iload_n hx hb dX0_bodyFor_27 rfl (lv_at hl 1 rfl) ?_
            have hv6 := h.1
            have h := h.2
            refine va_ti hx hb hST.2.1.2 hp.2.2 hv6 (v := .int (stS x2.toNatClampNeg)) rfl dX0_bodyFor_28 ?_
            refine lv_goto (tgt := 37) hx hb dX0_bodyFor_29 (by decide) ?_
            exact w_X0_bodyFor_37 X ih K44 _ _ _ _ _ _ _ _ h hp (lv_sub hl [0, 1, 2] rfl)
def wp_X0_bodyFor (x0 : Int32) (x1 : Int32) (I : II) (Q : Int32 → II → Prop) : Prop := (∃ n101, wp_X0_bodyFor_4 Q (fun x4 I => (Q x4 I)) (fun I => (Q (-nI 1000000) I)) n101 x1 x0 (nI 0) I)
set_option maxHeartbeats 4000000 in
set_option maxRecDepth 100000 in
theorem w_X0_bodyFor_0 {E : EE} {p : Program} {l : Launch} {e : Env} {s : State} {m : MethodId} {args : Array Value} {below : List Frame} {meth : Method} {c : Code} {Q : Int32 → II → Prop} (X : CX E p s m args meth c cX0_bodyFor 5 (some .int) RX0) : ∀ (x0 : Int32) (x1 : Int32) (I : II) (H : Heap) (locs : List Loc) (ls : Array Slot), wp_X0_bodyFor x0 x1 I Q → PP E s H locs I → lv_has ls 5 [(0, .int x0), (1, .int x1)] → W p l e rmX0_bodyFor s m args below meth c H locs 0 0 (MQ below (va_Qi Q (BU E) E.2.2.2.1) args s 0 0 E.2.2.2.1) (F0 m 0 ls []) := by
  obtain ⟨⟨hx, hb, hml, hown, hts⟩, hr, hlk, hK, hST, hN⟩ := id X
  intro x0 x1 I H locs ls h hp hl
  unfold wp_X0_bodyFor at h
  refine lv_iload_n hx hb dX0_bodyFor_0 rfl (lv_at hl 0 rfl) ?_
  refine lv_istore_n (lv' := [(2, .int x0), (0, .int x0), (1, .int x1)]) hx hb dX0_bodyFor_1 rfl hl (by decide) rfl (fun ls hl => ?_)
  refine lv_iconst (v := (nI 0)) hx hb dX0_bodyFor_2 (by decide) ?_
  refine lv_istore_n (lv' := [(3, .int (nI 0)), (2, .int x0), (0, .int x0), (1, .int x1)]) hx hb dX0_bodyFor_3 rfl hl (by decide) rfl (fun ls hl => ?_)
  obtain ⟨n101, h⟩ := h
  refine w_X0_bodyFor_4 X ?_ ?_ n101 _ _ _ _ _ _ _ h hp (lv_sub hl [3, 1, 0] rfl)
  · intro x4 I H locs ls h hp hl
    refine lv_iload hx hb dX0_bodyFor_44 (lv_at hl 0 rfl) ?_
    exact rt_i X hp h dX0_bodyFor_46
  · intro I H locs ls h hp hl
    refine lv_ldc (v := (-nI 1000000)) hx hb hown (hts _ tw_k_X0_49) dX0_bodyFor_59 ?_
    exact rt_i X hp h dX0_bodyFor_61
set_option maxRecDepth 100000 in
theorem C_X0_bodyFor {E : EE} {l : Launch} {x0 : Int32} {x1 : Int32} {I : II} {Q : Int32 → II → Prop} (h : wp_X0_bodyFor x0 x1 I Q) : Met l yX0_bodyFor (Cond.code yX0_bodyFor cX0_bodyFor 5 (some .int) :: lwT) rmX0_bodyFor (va_Pc [.int x0, .int x1] (PU E I)) (va_Qi Q (BU E) E.2.2.2.1) 0 0 E.2.2.2.1 :=
  ofWalk [.int x0, .int x1] (by decide) tw_c_X0_bodyFor (Nat.le_of_ble_eq_true rfl) (fun p e s m below meth c ls X hp hl => w_X0_bodyFor_0 X _ _ _ _ _ _ h hp hl)
abbrev rmX0_leaveNumber : Room := { frames := 0, cells := 0, slots := 0, locals := 0 }
theorem vf_X0_leaveNumber : VF yX0_leaveNumber RX0 cX0_leaveNumber 2 none 1 := ⟨tw_in_X0, tw_im_X0_leaveNumber, tw_se_X0_leaveNumber, tw_c_X0_leaveNumber, by decide, by decide, by decide +kernel⟩
def wp_X0_leaveNumber (x1 : Int32) (I : II) (Q : II → Prop) : Prop := (((nI 16) ≤ (I 313 1) → (Q I)) ∧ (¬ (nI 16) ≤ (I 313 1) → (vp_in (I 313 1) 16 ∧ ∀ I3 : II, I3 = su I 314 (I 313 1).toNatClampNeg x1 → (∀ I5 : II, I5 = su I3 313 1 ((I3 313 1) + (nI 1)) → (Q I5)))))
set_option maxHeartbeats 4000000 in
set_option maxRecDepth 100000 in
theorem w_X0_leaveNumber_0 {E : EE} {p : Program} {l : Launch} {e : Env} {s : State} {m : MethodId} {args : Array Value} {below : List Frame} {meth : Method} {c : Code} {Q : II → Prop} (X : CX E p s m args meth c cX0_leaveNumber 2 none RX0) : ∀ (x1 : Int32) (I : II) (H : Heap) (locs : List Loc) (ls : Array Slot), wp_X0_leaveNumber x1 I Q → PP E s H locs I → lv_has ls 2 [(0, .ref (E.2.1 313)), (1, .int x1)] → W p l e rmX0_leaveNumber s m args below meth c H locs 0 0 (MQ below (va_Qv Q (BU E) E.2.2.2.1) args s 0 0 E.2.2.2.1) (F0 m 0 ls []) := by
  obtain ⟨⟨hx, hb, hml, hown, hts⟩, hr, hlk, hK, hST, hN⟩ := id X
  intro x1 I H locs ls h hp hl
  unfold wp_X0_leaveNumber at h
  refine lv_aload_n hx hb dX0_leaveNumber_0 rfl (lv_at hl 0 rfl) ?_
  refine f_X0_15 X hp dX0_leaveNumber_1 ?_
  refine lv_bipush (v := (nI 16)) hx hb dX0_leaveNumber_4 (by decide) ?_
  refine lv_icmp_ge (tgt := 29) hx hb dX0_leaveNumber_6 (by decide) (fun c1 => ?_) (fun c1 => ?_)
  · have h := h.1 c1
    exact rt_v X hp h dX0_leaveNumber_29
  · have h := h.2 c1
    refine lv_aload_n hx hb dX0_leaveNumber_9 rfl (lv_at hl 0 rfl) ?_
    refine f_X0_9 X hp dX0_leaveNumber_10 ?_
    refine lv_aload_n hx hb dX0_leaveNumber_13 rfl (lv_at hl 0 rfl) ?_
    refine f_X0_15 X hp dX0_leaveNumber_14 ?_
    refine lv_iload_n hx hb dX0_leaveNumber_17 rfl (lv_at hl 1 rfl) ?_
    have hv2 := h.1
    have h := h.2
    refine as_i X hp ar_s314 hv2 dX0_leaveNumber_18 (fun H locs hp => ?_)
    obtain ⟨I3, e4⟩ : ∃ y, y = su I 314 (I 313 1).toNatClampNeg x1 := ⟨_, rfl⟩
    have hp : PP E s H locs I3 := by rw [e4]; exact hp
    have h := h I3 e4
    refine lv_aload_n hx hb dX0_leaveNumber_19 rfl (lv_at hl 0 rfl) ?_
    refine lv_dup hx hb dX0_leaveNumber_20 rfl ?_
    refine f_X0_15 X hp dX0_leaveNumber_21 ?_
    refine lv_iconst (v := (nI 1)) hx hb dX0_leaveNumber_24 (by decide) ?_
    refine lv_iadd hx hb dX0_leaveNumber_25 ?_
    refine g_X0_15 X hp dX0_leaveNumber_26 (fun H locs hp => ?_)
    obtain ⟨I5, e6⟩ : ∃ y, y = su I3 313 1 ((I3 313 1) + (nI 1)) := ⟨_, rfl⟩
    have hp : PP E s H locs I5 := by rw [e6]; exact hp
    have h := h I5 e6
    exact rt_v X hp h dX0_leaveNumber_29
set_option maxRecDepth 100000 in
theorem C_X0_leaveNumber {E : EE} {l : Launch} {x1 : Int32} {I : II} {Q : II → Prop} (h : wp_X0_leaveNumber x1 I Q) : Met l yX0_leaveNumber (Cond.code yX0_leaveNumber cX0_leaveNumber 2 none :: lwT) rmX0_leaveNumber (va_Pc [.ref (E.2.1 313), .int x1] (PU E I)) (va_Qv Q (BU E) E.2.2.2.1) 0 0 E.2.2.2.1 :=
  ofWalk [.ref (E.2.1 313), .int x1] (by decide) tw_c_X0_leaveNumber (Nat.le_of_ble_eq_true rfl) (fun p e s m below meth c ls X hp hl => w_X0_leaveNumber_0 X _ _ _ _ _ h hp hl)
theorem vf_X0_run : VF yX0_run RX0 cX0_run 6 (some .int) 4 := ⟨tw_in_X0, tw_im_X0_run, tw_se_X0_run, tw_c_X0_run, by decide, by decide, by decide +kernel⟩
def rmdX0_run (d : Nat) : Room := { frames := 4 * d + 6, cells := 0, slots := 0, locals := 160 * d + 200 }

def rmX0_answerOf (d : Nat) : Room := { frames := 4 * d + 8, cells := 0, slots := 0, locals := 160 * d + 280 }
theorem vf_X0_answerOf : VF yX0_answerOf RX0 cX0_answerOf 5 (some .int) 4 := ⟨tw_in_X0, tw_im_X0_answerOf, tw_se_X0_answerOf, tw_c_X0_answerOf, by decide, by decide, by decide +kernel⟩
def wp_X0_answerOf (rc : Nat → Int32 → Int32 → Int32 → II → (Int32 → II → Prop) → Prop) (j : Nat) (x2 : Int32) (x3 : Int32) (x4 : Int32) (I : II) (Q : Int32 → II → Prop) : Prop := (wp_X1_hasTeller j x2 I (fun r2 I1 => ((¬ r2 = 0 → (vp_in x2 4 ∧ (wp_X0_bodyFor (I1 (8 * j + 1) x2.toNatClampNeg) x3 I1 (fun r6 I5 => (rc j r6 x2 x4 I5 (fun r8 I7 => (Q r8 I7))))))) ∧ (r2 = 0 → (Q (nI 0) I1)))))
set_option maxHeartbeats 4000000 in
set_option maxRecDepth 100000 in
theorem w_X0_answerOf_0 {E : EE} {p : Program} {l : Launch} {e : Env} {s : State} {m : MethodId} {args : Array Value} {below : List Frame} {meth : Method} {c : Code} {d : Nat} {rc : Nat → Int32 → Int32 → Int32 → II → (Int32 → II → Prop) → Prop} {Q : Int32 → II → Prop} (X : CX E p s m args meth c cX0_answerOf 5 (some .int) RX0) (RC : ∀ {j : Nat} (hj : j < 37) (x1 : Int32) (x3 : Int32) (x4 : Int32) (I : II) (Q : Int32 → II → Prop), rc j x1 x3 x4 I Q → Met l yX0_run (Cond.code yX0_run cX0_run 6 (some .int) :: lwT) (rmdX0_run d) (va_Pc [.ref (E.2.1 313), .int x1, .ref (E.2.1 (8 * j)), .int x3, .int x4] (PU E I)) (va_Qi Q (BU E) E.2.2.2.1) 0 0 E.2.2.2.1) {j : Nat} (hj : j < 37) : ∀ (x2 : Int32) (x3 : Int32) (x4 : Int32) (I : II) (H : Heap) (locs : List Loc) (ls : Array Slot), wp_X0_answerOf rc j x2 x3 x4 I Q → PP E s H locs I → lv_has ls 5 [(0, .ref (E.2.1 313)), (1, .ref (E.2.1 (8 * j))), (2, .int x2), (3, .int x3), (4, .int x4)] → W p l e (rmX0_answerOf d) s m args below meth c H locs 0 0 (MQ below (va_Qi Q (BU E) E.2.2.2.1) args s 0 0 E.2.2.2.1) (F0 m 0 ls []) := by
  obtain ⟨⟨hx, hb, hml, hown, hts⟩, hr, hlk, hK, hST, hN⟩ := id X
  intro x2 x3 x4 I H locs ls h hp hl
  unfold wp_X0_answerOf at h
  refine lv_aload_n hx hb dX0_answerOf_0 rfl (lv_at hl 1 rfl) ?_
  refine lv_iload_n hx hb dX0_answerOf_1 rfl (lv_at hl 2 rfl) ?_
  refine ki (kV (As := [.int x2]) (rest := []) X hp (C_X1_hasTeller hj h) tw_ml_X0_23 vf_X1_hasTeller ⟨rfl, rfl, by simp only [rmX0_answerOf, rmdX0_run, rmX1_hasTeller]; omega, by simp only [rmX0_answerOf, rmdX0_run, rmX1_hasTeller]; omega⟩ (pr_rcvb X hp hj) rfl hl.1 rfl (Nat.le_of_ble_eq_true rfl) dX0_answerOf_2) hp (fun r2 I1 H locs h hp => ?_)
  refine lv_if_ne (tgt := 10) hx hb dX0_answerOf_5 (by decide) (fun c3 => ?_) (fun c3 => ?_)
  · have h := h.1 c3
    refine lv_aload_n hx hb dX0_answerOf_10 rfl (lv_at hl 0 rfl) ?_
    refine lv_aload_n hx hb dX0_answerOf_11 rfl (lv_at hl 1 rfl) ?_
    refine f_X0_29 X hp hj dX0_answerOf_12 ?_
    refine lv_iload_n hx hb dX0_answerOf_15 rfl (lv_at hl 2 rfl) ?_
    have hv4 := h.1
    have h := h.2
    refine al_i X hp (ar_1 hj) hv4 dX0_answerOf_16 ?_
    refine lv_iload_n hx hb dX0_answerOf_17 rfl (lv_at hl 3 rfl) ?_
    refine ki (kS (As := [.int (I1 (8 * j + 1) x2.toNatClampNeg), .int x3]) (rest := [.ref (E.2.1 313)]) X hp (C_X0_bodyFor  h) tw_ml_X0_32 sf_X0_bodyFor ⟨rfl, rfl, by simp only [rmX0_answerOf, rmdX0_run, rmX0_bodyFor]; omega, by simp only [rmX0_answerOf, rmdX0_run, rmX0_bodyFor]; omega⟩ rfl hl.1 rfl (Nat.le_of_ble_eq_true rfl) dX0_answerOf_18) hp (fun r6 I5 H locs h hp => ?_)
    refine lv_aload_n hx hb dX0_answerOf_21 rfl (lv_at hl 1 rfl) ?_
    refine lv_iload_n hx hb dX0_answerOf_22 rfl (lv_at hl 2 rfl) ?_
    refine lv_iload hx hb dX0_answerOf_23 (lv_at hl 4 rfl) ?_
    refine ki (kV (As := [.int r6, .ref (E.2.1 (8 * j)), .int x2, .int x4]) (rest := []) X hp (RC hj _ _ _ _ _ h) tw_ml_X0_36 vf_X0_run ⟨rfl, rfl, by simp only [rmX0_answerOf, rmdX0_run]; omega, by simp only [rmX0_answerOf, rmdX0_run]; omega⟩ (pr_rcv X hp (k := 313) (by decide) (ob_313 _) (q := (RX0, TX0, 2)) rfl) rfl hl.1 rfl (Nat.le_of_ble_eq_true rfl) dX0_answerOf_25) hp (fun r8 I7 H locs h hp => ?_)
    exact rt_i X hp h dX0_answerOf_28
  · have h := h.2 c3
    refine lv_iconst (v := (nI 0)) hx hb dX0_answerOf_8 (by decide) ?_
    exact rt_i X hp h dX0_answerOf_9
set_option maxRecDepth 100000 in
theorem C_X0_answerOf {E : EE} {l : Launch} {d : Nat} {rc : Nat → Int32 → Int32 → Int32 → II → (Int32 → II → Prop) → Prop} (RC : ∀ {j : Nat} (hj : j < 37) (x1 : Int32) (x3 : Int32) (x4 : Int32) (I : II) (Q : Int32 → II → Prop), rc j x1 x3 x4 I Q → Met l yX0_run (Cond.code yX0_run cX0_run 6 (some .int) :: lwT) (rmdX0_run d) (va_Pc [.ref (E.2.1 313), .int x1, .ref (E.2.1 (8 * j)), .int x3, .int x4] (PU E I)) (va_Qi Q (BU E) E.2.2.2.1) 0 0 E.2.2.2.1) {j : Nat} (hj : j < 37) {x2 : Int32} {x3 : Int32} {x4 : Int32} {I : II} {Q : Int32 → II → Prop} (h : wp_X0_answerOf rc j x2 x3 x4 I Q) : Met l yX0_answerOf (Cond.code yX0_answerOf cX0_answerOf 5 (some .int) :: lwT) (rmX0_answerOf d) (va_Pc [.ref (E.2.1 313), .ref (E.2.1 (8 * j)), .int x2, .int x3, .int x4] (PU E I)) (va_Qi Q (BU E) E.2.2.2.1) 0 0 E.2.2.2.1 :=
  ofWalk [.ref (E.2.1 313), .ref (E.2.1 (8 * j)), .int x2, .int x3, .int x4] (by decide) tw_c_X0_answerOf (Nat.le_of_ble_eq_true rfl) (fun p e s m below meth c ls X hp hl => w_X0_answerOf_0 X RC hj _ _ _ _ _ _ _ h hp hl)

def rmX0_run (d : Nat) : Room := { frames := 4 * d + 10, cells := 0, slots := 0, locals := 160 * d + 360 }
def wp_X0_run (rc : Nat → Int32 → Int32 → Int32 → II → (Int32 → II → Prop) → Prop) (j : Nat) (x1 : Int32) (x3 : Int32) (x4 : Int32) (I : II) (Q : Int32 → II → Prop) : Prop := (((nI 30) < x4 → (Q (nI 0) I)) ∧ (¬ (nI 30) < x4 → (wp_X1_hasTeller j x3 I (fun r3 I2 => ((¬ r3 = 0 → (wp_X0_leaveNumber x1 I2 (fun I5 => ((x1 = (nI 10) → (vp_in x3 4 ∧ (Q (I5 (8 * j + 3) x3.toNatClampNeg) I5))) ∧ (x1 = (nI 11) → (rc j (nI 10) x3 (x4 + (nI 1)) I5 (fun r11 I10 => (wp_X0_answerOf rc j x3 (nI 1) (x4 + (nI 1)) I10 (fun r13 I12 => (Q (r11 + r13) I12)))))) ∧ (x1 = (nI 12) → (rc j (nI 11) x3 (x4 + (nI 1)) I5 (fun r16 I15 => (Q (-r16) I15)))) ∧ (x1 = (nI 13) → (rc j (nI 10) x3 (x4 + (nI 1)) I5 (fun r19 I18 => (Q (r19 - (nI 100)) I18)))) ∧ (x1 = (nI 14) → (rc j (nI 13) x3 (x4 + (nI 1)) I5 (fun r22 I21 => (Q ((nI 2) * r22) I21)))) ∧ (x1 = (nI 15) → (Q (nI 0) I5)) ∧ (x1 = (nI 16) → (Q (nI 0) I5)) ∧ (x1 = (nI 17) → (Q (nI 0) I5)) ∧ (x1 = (nI 18) → (Q (nI 0) I5)) ∧ (x1 = (nI 19) → (Q (nI 0) I5)) ∧ (x1 = (nI 20) → (Q x3 I5)) ∧ (x1 = (nI 21) → (rc j (nI 20) x3 (x4 + (nI 1)) I5 (fun r31 I30 => (vp_in x3 4 ∧ (Q (r31 + (I30 (8 * j + 4) x3.toNatClampNeg)) I30))))) ∧ (x1 = (nI 22) → (rc j (nI 21) x3 (x4 + (nI 1)) I5 (fun r35 I34 => (Q (r35 - (nI 1000)) I34)))) ∧ (x1 = (nI 23) → (rc j (nI 20) x3 (x4 + (nI 1)) I5 (fun r38 I37 => (wp_X0_answerOf rc j x3 (nI 0) (x4 + (nI 1)) I37 (fun r40 I39 => (Q (r38 - r40) I39)))))) ∧ (x1 = (nI 24) → (rc j (nI 21) x3 (x4 + (nI 1)) I5 (fun r43 I42 => (Q ((nI 2) * r43) I42)))) ∧ (¬ x1 = (nI 10) → ¬ x1 = (nI 11) → ¬ x1 = (nI 12) → ¬ x1 = (nI 13) → ¬ x1 = (nI 14) → ¬ x1 = (nI 15) → ¬ x1 = (nI 16) → ¬ x1 = (nI 17) → ¬ x1 = (nI 18) → ¬ x1 = (nI 19) → ¬ x1 = (nI 20) → ¬ x1 = (nI 21) → ¬ x1 = (nI 22) → ¬ x1 = (nI 23) → ¬ x1 = (nI 24) → (Q (nI 0) I5)))))) ∧ (r3 = 0 → (Q (nI 0) I2)))))))
set_option maxHeartbeats 4000000 in
set_option maxRecDepth 100000 in
theorem w_X0_run_0 {E : EE} {p : Program} {l : Launch} {e : Env} {s : State} {m : MethodId} {args : Array Value} {below : List Frame} {meth : Method} {c : Code} {d : Nat} {rc : Nat → Int32 → Int32 → Int32 → II → (Int32 → II → Prop) → Prop} {Q : Int32 → II → Prop} (X : CX E p s m args meth c cX0_run 6 (some .int) RX0) (RC : ∀ {j : Nat} (hj : j < 37) (x1 : Int32) (x3 : Int32) (x4 : Int32) (I : II) (Q : Int32 → II → Prop), rc j x1 x3 x4 I Q → Met l yX0_run (Cond.code yX0_run cX0_run 6 (some .int) :: lwT) (rmdX0_run d) (va_Pc [.ref (E.2.1 313), .int x1, .ref (E.2.1 (8 * j)), .int x3, .int x4] (PU E I)) (va_Qi Q (BU E) E.2.2.2.1) 0 0 E.2.2.2.1) {j : Nat} (hj : j < 37) : ∀ (x1 : Int32) (x3 : Int32) (x4 : Int32) (I : II) (H : Heap) (locs : List Loc) (ls : Array Slot), wp_X0_run rc j x1 x3 x4 I Q → PP E s H locs I → lv_has ls 6 [(0, .ref (E.2.1 313)), (1, .int x1), (2, .ref (E.2.1 (8 * j))), (3, .int x3), (4, .int x4)] → W p l e (rmX0_run d) s m args below meth c H locs 0 0 (MQ below (va_Qi Q (BU E) E.2.2.2.1) args s 0 0 E.2.2.2.1) (F0 m 0 ls []) := by
  obtain ⟨⟨hx, hb, hml, hown, hts⟩, hr, hlk, hK, hST, hN⟩ := id X
  intro x1 x3 x4 I H locs ls h hp hl
  unfold wp_X0_run at h
  refine lv_iload hx hb dX0_run_0 (lv_at hl 4 rfl) ?_
  refine lv_bipush (v := (nI 30)) hx hb dX0_run_2 (by decide) ?_
  refine lv_icmp_gt (tgt := 15) hx hb dX0_run_4 (by decide) (fun c1 => ?_) (fun c1 => ?_)
  · have h := h.1 c1
    refine lv_iconst (v := (nI 0)) hx hb dX0_run_15 (by decide) ?_
    exact rt_i X hp h dX0_run_16
  · have h := h.2 c1
    refine lv_aload_n hx hb dX0_run_7 rfl (lv_at hl 2 rfl) ?_
    refine lv_iload_n hx hb dX0_run_8 rfl (lv_at hl 3 rfl) ?_
    refine ki (kV (As := [.int x3]) (rest := []) X hp (C_X1_hasTeller hj h) tw_ml_X0_23 vf_X1_hasTeller ⟨rfl, rfl, by simp only [rmX0_run, rmdX0_run, rmX1_hasTeller]; omega, by simp only [rmX0_run, rmdX0_run, rmX1_hasTeller]; omega⟩ (pr_rcvb X hp hj) rfl hl.1 rfl (Nat.le_of_ble_eq_true rfl) dX0_run_9) hp (fun r3 I2 H locs h hp => ?_)
    refine lv_if_ne (tgt := 17) hx hb dX0_run_12 (by decide) (fun c4 => ?_) (fun c4 => ?_)
    · have h := h.1 c4
      refine lv_aload_n hx hb dX0_run_17 rfl (lv_at hl 0 rfl) ?_
      refine lv_iload_n hx hb dX0_run_18 rfl (lv_at hl 1 rfl) ?_
      refine kv (kV (As := [.int x1]) (rest := []) X hp (C_X0_leaveNumber  h) tw_ml_X0_50 vf_X0_leaveNumber ⟨rfl, rfl, by simp only [rmX0_run, rmdX0_run, rmX0_leaveNumber]; omega, by simp only [rmX0_run, rmdX0_run, rmX0_leaveNumber]; omega⟩ (pr_rcv X hp (k := 313) (by decide) (ob_313 _) (q := (RX0, TX0, 2)) rfl) rfl hl.1 rfl (Nat.le_of_ble_eq_true rfl) dX0_run_19) hp (fun I5 H locs h hp => ?_)
      refine lv_iload hx hb dX0_run_22 (lv_at hl 4 rfl) ?_
      refine lv_iconst (v := (nI 1)) hx hb dX0_run_24 (by decide) ?_
      refine lv_iadd hx hb dX0_run_25 ?_
      refine lv_istore (lv' := [(5, .int (x4 + (nI 1))), (0, .ref (E.2.1 313)), (1, .int x1), (2, .ref (E.2.1 (8 * j))), (3, .int x3), (4, .int x4)]) hx hb dX0_run_26 hl (by decide) rfl (fun ls hl => ?_)
      refine lv_iload_n hx hb dX0_run_28 rfl (lv_at hl 2 rfl) ?_
      by_cases c7 : x1 = (nI 10)
      · have h := h.1 c7
        refine lv_tableIn (off := 75) (tgt := 104) hx hb dX0_run_29 (by rw [c7]; decide) (by rw [c7]; decide) (by rw [c7]; rfl) (by decide) ?_
        refine lv_aload_n hx hb dX0_run_104 rfl (lv_at hl 3 rfl) ?_
        refine f_X0_54 X hp hj dX0_run_105 ?_
        refine lv_iload_n hx hb dX0_run_108 rfl (lv_at hl 4 rfl) ?_
        have hv8 := h.1
        have h := h.2
        refine al_i X hp (ar_3 hj) hv8 dX0_run_109 ?_
        exact rt_i X hp h dX0_run_110
      have h := h.2
      by_cases c9 : x1 = (nI 11)
      · have h := h.1 c9
        refine lv_tableIn (off := 82) (tgt := 111) hx hb dX0_run_29 (by rw [c9]; decide) (by rw [c9]; decide) (by rw [c9]; rfl) (by decide) ?_
        refine lv_aload_n hx hb dX0_run_111 rfl (lv_at hl 1 rfl) ?_
        refine lv_bipush (v := (nI 10)) hx hb dX0_run_112 (by decide) ?_
        refine lv_aload_n hx hb dX0_run_114 rfl (lv_at hl 3 rfl) ?_
        refine lv_iload_n hx hb dX0_run_115 rfl (lv_at hl 4 rfl) ?_
        refine lv_iload hx hb dX0_run_116 (lv_at hl 0 rfl) ?_
        refine ki (kV (As := [.int (nI 10), .ref (E.2.1 (8 * j)), .int x3, .int (x4 + (nI 1))]) (rest := []) X hp (RC hj _ _ _ _ _ h) tw_ml_X0_36 vf_X0_run ⟨rfl, rfl, by simp only [rmX0_run, rmdX0_run]; omega, by simp only [rmX0_run, rmdX0_run]; omega⟩ (pr_rcv X hp (k := 313) (by decide) (ob_313 _) (q := (RX0, TX0, 2)) rfl) rfl hl.1 rfl (Nat.le_of_ble_eq_true rfl) dX0_run_118) hp (fun r11 I10 H locs h hp => ?_)
        refine lv_aload_n hx hb dX0_run_121 rfl (lv_at hl 1 rfl) ?_
        refine lv_aload_n hx hb dX0_run_122 rfl (lv_at hl 3 rfl) ?_
        refine lv_iload_n hx hb dX0_run_123 rfl (lv_at hl 4 rfl) ?_
        refine lv_iconst (v := (nI 1)) hx hb dX0_run_124 (by decide) ?_
        refine lv_iload hx hb dX0_run_125 (lv_at hl 0 rfl) ?_
        refine ki (kV (As := [.ref (E.2.1 (8 * j)), .int x3, .int (nI 1), .int (x4 + (nI 1))]) (rest := [.int r11]) X hp (C_X0_answerOf RC hj h) tw_ml_X0_19 vf_X0_answerOf ⟨rfl, rfl, by simp only [rmX0_run, rmdX0_run, rmX0_answerOf]; omega, by simp only [rmX0_run, rmdX0_run, rmX0_answerOf]; omega⟩ (pr_rcv X hp (k := 313) (by decide) (ob_313 _) (q := (RX0, TX0, 2)) rfl) rfl hl.1 rfl (Nat.le_of_ble_eq_true rfl) dX0_run_127) hp (fun r13 I12 H locs h hp => ?_)
        refine lv_iadd hx hb dX0_run_130 ?_
        exact rt_i X hp h dX0_run_131
      have h := h.2
      by_cases c14 : x1 = (nI 12)
      · have h := h.1 c14
        refine lv_tableIn (off := 103) (tgt := 132) hx hb dX0_run_29 (by rw [c14]; decide) (by rw [c14]; decide) (by rw [c14]; rfl) (by decide) ?_
        refine lv_aload_n hx hb dX0_run_132 rfl (lv_at hl 1 rfl) ?_
        refine lv_bipush (v := (nI 11)) hx hb dX0_run_133 (by decide) ?_
        refine lv_aload_n hx hb dX0_run_135 rfl (lv_at hl 3 rfl) ?_
        refine lv_iload_n hx hb dX0_run_136 rfl (lv_at hl 4 rfl) ?_
        refine lv_iload hx hb dX0_run_137 (lv_at hl 0 rfl) ?_
        refine ki (kV (As := [.int (nI 11), .ref (E.2.1 (8 * j)), .int x3, .int (x4 + (nI 1))]) (rest := []) X hp (RC hj _ _ _ _ _ h) tw_ml_X0_36 vf_X0_run ⟨rfl, rfl, by simp only [rmX0_run, rmdX0_run]; omega, by simp only [rmX0_run, rmdX0_run]; omega⟩ (pr_rcv X hp (k := 313) (by decide) (ob_313 _) (q := (RX0, TX0, 2)) rfl) rfl hl.1 rfl (Nat.le_of_ble_eq_true rfl) dX0_run_139) hp (fun r16 I15 H locs h hp => ?_)
        refine lv_ineg hx hb dX0_run_142 ?_
        exact rt_i X hp h dX0_run_143
      have h := h.2
      by_cases c17 : x1 = (nI 13)
      · have h := h.1 c17
        refine lv_tableIn (off := 115) (tgt := 144) hx hb dX0_run_29 (by rw [c17]; decide) (by rw [c17]; decide) (by rw [c17]; rfl) (by decide) ?_
        refine lv_aload_n hx hb dX0_run_144 rfl (lv_at hl 1 rfl) ?_
        refine lv_bipush (v := (nI 10)) hx hb dX0_run_145 (by decide) ?_
        refine lv_aload_n hx hb dX0_run_147 rfl (lv_at hl 3 rfl) ?_
        refine lv_iload_n hx hb dX0_run_148 rfl (lv_at hl 4 rfl) ?_
        refine lv_iload hx hb dX0_run_149 (lv_at hl 0 rfl) ?_
        refine ki (kV (As := [.int (nI 10), .ref (E.2.1 (8 * j)), .int x3, .int (x4 + (nI 1))]) (rest := []) X hp (RC hj _ _ _ _ _ h) tw_ml_X0_36 vf_X0_run ⟨rfl, rfl, by simp only [rmX0_run, rmdX0_run]; omega, by simp only [rmX0_run, rmdX0_run]; omega⟩ (pr_rcv X hp (k := 313) (by decide) (ob_313 _) (q := (RX0, TX0, 2)) rfl) rfl hl.1 rfl (Nat.le_of_ble_eq_true rfl) dX0_run_151) hp (fun r19 I18 H locs h hp => ?_)
        refine lv_bipush (v := (nI 100)) hx hb dX0_run_154 (by decide) ?_
        refine lv_isub hx hb dX0_run_156 ?_
        exact rt_i X hp h dX0_run_157
      have h := h.2
      by_cases c20 : x1 = (nI 14)
      · have h := h.1 c20
        refine lv_tableIn (off := 129) (tgt := 158) hx hb dX0_run_29 (by rw [c20]; decide) (by rw [c20]; decide) (by rw [c20]; rfl) (by decide) ?_
        refine lv_iconst (v := (nI 2)) hx hb dX0_run_158 (by decide) ?_
        refine lv_aload_n hx hb dX0_run_159 rfl (lv_at hl 1 rfl) ?_
        refine lv_bipush (v := (nI 13)) hx hb dX0_run_160 (by decide) ?_
        refine lv_aload_n hx hb dX0_run_162 rfl (lv_at hl 3 rfl) ?_
        refine lv_iload_n hx hb dX0_run_163 rfl (lv_at hl 4 rfl) ?_
        refine lv_iload hx hb dX0_run_164 (lv_at hl 0 rfl) ?_
        refine ki (kV (As := [.int (nI 13), .ref (E.2.1 (8 * j)), .int x3, .int (x4 + (nI 1))]) (rest := [.int (nI 2)]) X hp (RC hj _ _ _ _ _ h) tw_ml_X0_36 vf_X0_run ⟨rfl, rfl, by simp only [rmX0_run, rmdX0_run]; omega, by simp only [rmX0_run, rmdX0_run]; omega⟩ (pr_rcv X hp (k := 313) (by decide) (ob_313 _) (q := (RX0, TX0, 2)) rfl) rfl hl.1 rfl (Nat.le_of_ble_eq_true rfl) dX0_run_166) hp (fun r22 I21 H locs h hp => ?_)
        refine lv_imul hx hb dX0_run_169 ?_
        exact rt_i X hp h dX0_run_170
      have h := h.2
      by_cases c23 : x1 = (nI 15)
      · have h := h.1 c23
        refine lv_tableIn (off := 211) (tgt := 240) hx hb dX0_run_29 (by rw [c23]; decide) (by rw [c23]; decide) (by rw [c23]; rfl) (by decide) ?_
        refine lv_iconst (v := (nI 0)) hx hb dX0_run_240 (by decide) ?_
        exact rt_i X hp h dX0_run_241
      have h := h.2
      by_cases c24 : x1 = (nI 16)
      · have h := h.1 c24
        refine lv_tableIn (off := 211) (tgt := 240) hx hb dX0_run_29 (by rw [c24]; decide) (by rw [c24]; decide) (by rw [c24]; rfl) (by decide) ?_
        refine lv_iconst (v := (nI 0)) hx hb dX0_run_240 (by decide) ?_
        exact rt_i X hp h dX0_run_241
      have h := h.2
      by_cases c25 : x1 = (nI 17)
      · have h := h.1 c25
        refine lv_tableIn (off := 211) (tgt := 240) hx hb dX0_run_29 (by rw [c25]; decide) (by rw [c25]; decide) (by rw [c25]; rfl) (by decide) ?_
        refine lv_iconst (v := (nI 0)) hx hb dX0_run_240 (by decide) ?_
        exact rt_i X hp h dX0_run_241
      have h := h.2
      by_cases c26 : x1 = (nI 18)
      · have h := h.1 c26
        refine lv_tableIn (off := 211) (tgt := 240) hx hb dX0_run_29 (by rw [c26]; decide) (by rw [c26]; decide) (by rw [c26]; rfl) (by decide) ?_
        refine lv_iconst (v := (nI 0)) hx hb dX0_run_240 (by decide) ?_
        exact rt_i X hp h dX0_run_241
      have h := h.2
      by_cases c27 : x1 = (nI 19)
      · have h := h.1 c27
        refine lv_tableIn (off := 211) (tgt := 240) hx hb dX0_run_29 (by rw [c27]; decide) (by rw [c27]; decide) (by rw [c27]; rfl) (by decide) ?_
        refine lv_iconst (v := (nI 0)) hx hb dX0_run_240 (by decide) ?_
        exact rt_i X hp h dX0_run_241
      have h := h.2
      by_cases c28 : x1 = (nI 20)
      · have h := h.1 c28
        refine lv_tableIn (off := 142) (tgt := 171) hx hb dX0_run_29 (by rw [c28]; decide) (by rw [c28]; decide) (by rw [c28]; rfl) (by decide) ?_
        refine lv_iload_n hx hb dX0_run_171 rfl (lv_at hl 4 rfl) ?_
        exact rt_i X hp h dX0_run_172
      have h := h.2
      by_cases c29 : x1 = (nI 21)
      · have h := h.1 c29
        refine lv_tableIn (off := 144) (tgt := 173) hx hb dX0_run_29 (by rw [c29]; decide) (by rw [c29]; decide) (by rw [c29]; rfl) (by decide) ?_
        refine lv_aload_n hx hb dX0_run_173 rfl (lv_at hl 1 rfl) ?_
        refine lv_bipush (v := (nI 20)) hx hb dX0_run_174 (by decide) ?_
        refine lv_aload_n hx hb dX0_run_176 rfl (lv_at hl 3 rfl) ?_
        refine lv_iload_n hx hb dX0_run_177 rfl (lv_at hl 4 rfl) ?_
        refine lv_iload hx hb dX0_run_178 (lv_at hl 0 rfl) ?_
        refine ki (kV (As := [.int (nI 20), .ref (E.2.1 (8 * j)), .int x3, .int (x4 + (nI 1))]) (rest := []) X hp (RC hj _ _ _ _ _ h) tw_ml_X0_36 vf_X0_run ⟨rfl, rfl, by simp only [rmX0_run, rmdX0_run]; omega, by simp only [rmX0_run, rmdX0_run]; omega⟩ (pr_rcv X hp (k := 313) (by decide) (ob_313 _) (q := (RX0, TX0, 2)) rfl) rfl hl.1 rfl (Nat.le_of_ble_eq_true rfl) dX0_run_180) hp (fun r31 I30 H locs h hp => ?_)
        refine lv_aload_n hx hb dX0_run_183 rfl (lv_at hl 3 rfl) ?_
        refine f_X0_57 X hp hj dX0_run_184 ?_
        refine lv_iload_n hx hb dX0_run_187 rfl (lv_at hl 4 rfl) ?_
        have hv32 := h.1
        have h := h.2
        refine al_i X hp (ar_4 hj) hv32 dX0_run_188 ?_
        refine lv_iadd hx hb dX0_run_189 ?_
        exact rt_i X hp h dX0_run_190
      have h := h.2
      by_cases c33 : x1 = (nI 22)
      · have h := h.1 c33
        refine lv_tableIn (off := 162) (tgt := 191) hx hb dX0_run_29 (by rw [c33]; decide) (by rw [c33]; decide) (by rw [c33]; rfl) (by decide) ?_
        refine lv_aload_n hx hb dX0_run_191 rfl (lv_at hl 1 rfl) ?_
        refine lv_bipush (v := (nI 21)) hx hb dX0_run_192 (by decide) ?_
        refine lv_aload_n hx hb dX0_run_194 rfl (lv_at hl 3 rfl) ?_
        refine lv_iload_n hx hb dX0_run_195 rfl (lv_at hl 4 rfl) ?_
        refine lv_iload hx hb dX0_run_196 (lv_at hl 0 rfl) ?_
        refine ki (kV (As := [.int (nI 21), .ref (E.2.1 (8 * j)), .int x3, .int (x4 + (nI 1))]) (rest := []) X hp (RC hj _ _ _ _ _ h) tw_ml_X0_36 vf_X0_run ⟨rfl, rfl, by simp only [rmX0_run, rmdX0_run]; omega, by simp only [rmX0_run, rmdX0_run]; omega⟩ (pr_rcv X hp (k := 313) (by decide) (ob_313 _) (q := (RX0, TX0, 2)) rfl) rfl hl.1 rfl (Nat.le_of_ble_eq_true rfl) dX0_run_198) hp (fun r35 I34 H locs h hp => ?_)
        refine lv_sipush (v := (nI 1000)) hx hb dX0_run_201 (by decide) ?_
        refine lv_isub hx hb dX0_run_204 ?_
        exact rt_i X hp h dX0_run_205
      have h := h.2
      by_cases c36 : x1 = (nI 23)
      · have h := h.1 c36
        refine lv_tableIn (off := 177) (tgt := 206) hx hb dX0_run_29 (by rw [c36]; decide) (by rw [c36]; decide) (by rw [c36]; rfl) (by decide) ?_
        refine lv_aload_n hx hb dX0_run_206 rfl (lv_at hl 1 rfl) ?_
        refine lv_bipush (v := (nI 20)) hx hb dX0_run_207 (by decide) ?_
        refine lv_aload_n hx hb dX0_run_209 rfl (lv_at hl 3 rfl) ?_
        refine lv_iload_n hx hb dX0_run_210 rfl (lv_at hl 4 rfl) ?_
        refine lv_iload hx hb dX0_run_211 (lv_at hl 0 rfl) ?_
        refine ki (kV (As := [.int (nI 20), .ref (E.2.1 (8 * j)), .int x3, .int (x4 + (nI 1))]) (rest := []) X hp (RC hj _ _ _ _ _ h) tw_ml_X0_36 vf_X0_run ⟨rfl, rfl, by simp only [rmX0_run, rmdX0_run]; omega, by simp only [rmX0_run, rmdX0_run]; omega⟩ (pr_rcv X hp (k := 313) (by decide) (ob_313 _) (q := (RX0, TX0, 2)) rfl) rfl hl.1 rfl (Nat.le_of_ble_eq_true rfl) dX0_run_213) hp (fun r38 I37 H locs h hp => ?_)
        refine lv_aload_n hx hb dX0_run_216 rfl (lv_at hl 1 rfl) ?_
        refine lv_aload_n hx hb dX0_run_217 rfl (lv_at hl 3 rfl) ?_
        refine lv_iload_n hx hb dX0_run_218 rfl (lv_at hl 4 rfl) ?_
        refine lv_iconst (v := (nI 0)) hx hb dX0_run_219 (by decide) ?_
        refine lv_iload hx hb dX0_run_220 (lv_at hl 0 rfl) ?_
        refine ki (kV (As := [.ref (E.2.1 (8 * j)), .int x3, .int (nI 0), .int (x4 + (nI 1))]) (rest := [.int r38]) X hp (C_X0_answerOf RC hj h) tw_ml_X0_19 vf_X0_answerOf ⟨rfl, rfl, by simp only [rmX0_run, rmdX0_run, rmX0_answerOf]; omega, by simp only [rmX0_run, rmdX0_run, rmX0_answerOf]; omega⟩ (pr_rcv X hp (k := 313) (by decide) (ob_313 _) (q := (RX0, TX0, 2)) rfl) rfl hl.1 rfl (Nat.le_of_ble_eq_true rfl) dX0_run_222) hp (fun r40 I39 H locs h hp => ?_)
        refine lv_isub hx hb dX0_run_225 ?_
        exact rt_i X hp h dX0_run_226
      have h := h.2
      by_cases c41 : x1 = (nI 24)
      · have h := h.1 c41
        refine lv_tableIn (off := 198) (tgt := 227) hx hb dX0_run_29 (by rw [c41]; decide) (by rw [c41]; decide) (by rw [c41]; rfl) (by decide) ?_
        refine lv_iconst (v := (nI 2)) hx hb dX0_run_227 (by decide) ?_
        refine lv_aload_n hx hb dX0_run_228 rfl (lv_at hl 1 rfl) ?_
        refine lv_bipush (v := (nI 21)) hx hb dX0_run_229 (by decide) ?_
        refine lv_aload_n hx hb dX0_run_231 rfl (lv_at hl 3 rfl) ?_
        refine lv_iload_n hx hb dX0_run_232 rfl (lv_at hl 4 rfl) ?_
        refine lv_iload hx hb dX0_run_233 (lv_at hl 0 rfl) ?_
        refine ki (kV (As := [.int (nI 21), .ref (E.2.1 (8 * j)), .int x3, .int (x4 + (nI 1))]) (rest := [.int (nI 2)]) X hp (RC hj _ _ _ _ _ h) tw_ml_X0_36 vf_X0_run ⟨rfl, rfl, by simp only [rmX0_run, rmdX0_run]; omega, by simp only [rmX0_run, rmdX0_run]; omega⟩ (pr_rcv X hp (k := 313) (by decide) (ob_313 _) (q := (RX0, TX0, 2)) rfl) rfl hl.1 rfl (Nat.le_of_ble_eq_true rfl) dX0_run_235) hp (fun r43 I42 H locs h hp => ?_)
        refine lv_imul hx hb dX0_run_238 ?_
        exact rt_i X hp h dX0_run_239
      have h := h.2
      have h := h c7 c9 c14 c17 c20 c23 c24 c25 c26 c27 c28 c29 c33 c36 c41
      have e44 : x1.toInt ≠ 10 := fun q => c7 (Int32.toInt_inj.mp (q.trans (by decide)))
      have e45 : x1.toInt ≠ 11 := fun q => c9 (Int32.toInt_inj.mp (q.trans (by decide)))
      have e46 : x1.toInt ≠ 12 := fun q => c14 (Int32.toInt_inj.mp (q.trans (by decide)))
      have e47 : x1.toInt ≠ 13 := fun q => c17 (Int32.toInt_inj.mp (q.trans (by decide)))
      have e48 : x1.toInt ≠ 14 := fun q => c20 (Int32.toInt_inj.mp (q.trans (by decide)))
      have e49 : x1.toInt ≠ 15 := fun q => c23 (Int32.toInt_inj.mp (q.trans (by decide)))
      have e50 : x1.toInt ≠ 16 := fun q => c24 (Int32.toInt_inj.mp (q.trans (by decide)))
      have e51 : x1.toInt ≠ 17 := fun q => c25 (Int32.toInt_inj.mp (q.trans (by decide)))
      have e52 : x1.toInt ≠ 18 := fun q => c26 (Int32.toInt_inj.mp (q.trans (by decide)))
      have e53 : x1.toInt ≠ 19 := fun q => c27 (Int32.toInt_inj.mp (q.trans (by decide)))
      have e54 : x1.toInt ≠ 20 := fun q => c28 (Int32.toInt_inj.mp (q.trans (by decide)))
      have e55 : x1.toInt ≠ 21 := fun q => c29 (Int32.toInt_inj.mp (q.trans (by decide)))
      have e56 : x1.toInt ≠ 22 := fun q => c33 (Int32.toInt_inj.mp (q.trans (by decide)))
      have e57 : x1.toInt ≠ 23 := fun q => c36 (Int32.toInt_inj.mp (q.trans (by decide)))
      have e58 : x1.toInt ≠ 24 := fun q => c41 (Int32.toInt_inj.mp (q.trans (by decide)))
      refine lv_tableOut (tgt := 240) hx hb dX0_run_29 (by omega) (by decide) ?_
      refine lv_iconst (v := (nI 0)) hx hb dX0_run_240 (by decide) ?_
      exact rt_i X hp h dX0_run_241
    · have h := h.2 c4
      refine lv_iconst (v := (nI 0)) hx hb dX0_run_15 (by decide) ?_
      exact rt_i X hp h dX0_run_16
set_option maxRecDepth 100000 in
theorem C_X0_run {E : EE} {l : Launch} {d : Nat} {rc : Nat → Int32 → Int32 → Int32 → II → (Int32 → II → Prop) → Prop} (RC : ∀ {j : Nat} (hj : j < 37) (x1 : Int32) (x3 : Int32) (x4 : Int32) (I : II) (Q : Int32 → II → Prop), rc j x1 x3 x4 I Q → Met l yX0_run (Cond.code yX0_run cX0_run 6 (some .int) :: lwT) (rmdX0_run d) (va_Pc [.ref (E.2.1 313), .int x1, .ref (E.2.1 (8 * j)), .int x3, .int x4] (PU E I)) (va_Qi Q (BU E) E.2.2.2.1) 0 0 E.2.2.2.1) {j : Nat} (hj : j < 37) {x1 : Int32} {x3 : Int32} {x4 : Int32} {I : II} {Q : Int32 → II → Prop} (h : wp_X0_run rc j x1 x3 x4 I Q) : Met l yX0_run (Cond.code yX0_run cX0_run 6 (some .int) :: lwT) (rmX0_run d) (va_Pc [.ref (E.2.1 313), .int x1, .ref (E.2.1 (8 * j)), .int x3, .int x4] (PU E I)) (va_Qi Q (BU E) E.2.2.2.1) 0 0 E.2.2.2.1 :=
  ofWalk [.ref (E.2.1 313), .int x1, .ref (E.2.1 (8 * j)), .int x3, .int x4] (by decide) tw_c_X0_run (Nat.le_of_ble_eq_true rfl) (fun p e s m below meth c ls X hp hl => w_X0_run_0 X RC hj _ _ _ _ _ _ _ h hp hl)
def wpd_X0_run : Nat → Nat → Int32 → Int32 → Int32 → II → (Int32 → II → Prop) → Prop
  | 0, _, _, _, _, _, _ => False
  | d + 1, j, x1, x3, x4, I, Q => wp_X0_run (wpd_X0_run d) j x1 x3 x4 I Q
theorem CR_X0_run {E : EE} {l : Launch} : ∀ (d : Nat), ∀ {j : Nat} (hj : j < 37) (x1 : Int32) (x3 : Int32) (x4 : Int32) (I : II) (Q : Int32 → II → Prop), wpd_X0_run d j x1 x3 x4 I Q → Met l yX0_run (Cond.code yX0_run cX0_run 6 (some .int) :: lwT) (rmdX0_run d) (va_Pc [.ref (E.2.1 313), .int x1, .ref (E.2.1 (8 * j)), .int x3, .int x4] (PU E I)) (va_Qi Q (BU E) E.2.2.2.1) 0 0 E.2.2.2.1 := by
  intro d
  induction d with
  | zero => intro j hj x1 x3 x4 I Q h; exact False.elim h
  | succ d ih => intro j hj x1 x3 x4 I Q h; exact C_X0_run ih hj h
abbrev rmX0_begin : Room := { frames := 49, cells := 0, slots := 0, locals := 1904 }
theorem vf_X0_begin : VF yX0_begin RX0 cX0_begin 4 (some .int) 3 := ⟨tw_in_X0, tw_im_X0_begin, tw_se_X0_begin, tw_c_X0_begin, by decide, by decide, by decide +kernel⟩
def wp_X0_begin (j : Nat) (x2 : Int32) (x3 : Int32) (I : II) (Q : Int32 → II → Prop) : Prop := (∀ I1 : II, I1 = su I 313 1 (nI 0) → (wp_X0_answerOf (wpd_X0_run 10) j x2 x3 (nI 0) I1 (fun r4 I3 => (Q r4 I3))))
set_option maxHeartbeats 4000000 in
set_option maxRecDepth 100000 in
theorem w_X0_begin_0 {E : EE} {p : Program} {l : Launch} {e : Env} {s : State} {m : MethodId} {args : Array Value} {below : List Frame} {meth : Method} {c : Code} {Q : Int32 → II → Prop} (X : CX E p s m args meth c cX0_begin 4 (some .int) RX0) {j : Nat} (hj : j < 37) : ∀ (x2 : Int32) (x3 : Int32) (I : II) (H : Heap) (locs : List Loc) (ls : Array Slot), wp_X0_begin j x2 x3 I Q → PP E s H locs I → lv_has ls 4 [(0, .ref (E.2.1 313)), (1, .ref (E.2.1 (8 * j))), (2, .int x2), (3, .int x3)] → W p l e rmX0_begin s m args below meth c H locs 0 0 (MQ below (va_Qi Q (BU E) E.2.2.2.1) args s 0 0 E.2.2.2.1) (F0 m 0 ls []) := by
  obtain ⟨⟨hx, hb, hml, hown, hts⟩, hr, hlk, hK, hST, hN⟩ := id X
  intro x2 x3 I H locs ls h hp hl
  unfold wp_X0_begin at h
  refine lv_aload_n hx hb dX0_begin_0 rfl (lv_at hl 0 rfl) ?_
  refine lv_iconst (v := (nI 0)) hx hb dX0_begin_1 (by decide) ?_
  refine g_X0_15 X hp dX0_begin_2 (fun H locs hp => ?_)
  obtain ⟨I1, e2⟩ : ∃ y, y = su I 313 1 (nI 0) := ⟨_, rfl⟩
  have hp : PP E s H locs I1 := by rw [e2]; exact hp
  have h := h I1 e2
  refine lv_aload_n hx hb dX0_begin_5 rfl (lv_at hl 0 rfl) ?_
  refine lv_aload_n hx hb dX0_begin_6 rfl (lv_at hl 1 rfl) ?_
  refine lv_iload_n hx hb dX0_begin_7 rfl (lv_at hl 2 rfl) ?_
  refine lv_iload_n hx hb dX0_begin_8 rfl (lv_at hl 3 rfl) ?_
  refine lv_iconst (v := (nI 0)) hx hb dX0_begin_9 (by decide) ?_
  refine ki (kV (As := [.ref (E.2.1 (8 * j)), .int x2, .int x3, .int (nI 0)]) (rest := []) X hp (C_X0_answerOf (CR_X0_run 10) hj h) tw_ml_X0_19 vf_X0_answerOf ⟨rfl, rfl, Nat.le_of_ble_eq_true rfl, Nat.le_of_ble_eq_true rfl⟩ (pr_rcv X hp (k := 313) (by decide) (ob_313 _) (q := (RX0, TX0, 2)) rfl) rfl hl.1 rfl (Nat.le_of_ble_eq_true rfl) dX0_begin_10) hp (fun r4 I3 H locs h hp => ?_)
  exact rt_i X hp h dX0_begin_13
set_option maxRecDepth 100000 in
theorem C_X0_begin {E : EE} {l : Launch} {j : Nat} (hj : j < 37) {x2 : Int32} {x3 : Int32} {I : II} {Q : Int32 → II → Prop} (h : wp_X0_begin j x2 x3 I Q) : Met l yX0_begin (Cond.code yX0_begin cX0_begin 4 (some .int) :: lwT) rmX0_begin (va_Pc [.ref (E.2.1 313), .ref (E.2.1 (8 * j)), .int x2, .int x3] (PU E I)) (va_Qi Q (BU E) E.2.2.2.1) 0 0 E.2.2.2.1 :=
  ofWalk [.ref (E.2.1 313), .ref (E.2.1 (8 * j)), .int x2, .int x3] (by decide) tw_c_X0_begin (Nat.le_of_ble_eq_true rfl) (fun p e s m below meth c ls X hp hl => w_X0_begin_0 X hj _ _ _ _ _ _ h hp hl)
abbrev rmX0_traceAt : Room := { frames := 0, cells := 0, slots := 0, locals := 0 }
theorem vf_X0_traceAt : VF yX0_traceAt RX0 cX0_traceAt 2 (some .int) 1 := ⟨tw_in_X0, tw_im_X0_traceAt, tw_se_X0_traceAt, tw_c_X0_traceAt, by decide, by decide, by decide +kernel⟩
def wp_X0_traceAt (x1 : Int32) (I : II) (Q : Int32 → II → Prop) : Prop := ((x1 < 0 → (Q (-nI 1000000) I)) ∧ (¬ x1 < 0 → (((I 313 1) ≤ x1 → (Q (-nI 1000000) I)) ∧ (¬ (I 313 1) ≤ x1 → (((nI 16) ≤ x1 → (Q (-nI 1000000) I)) ∧ (¬ (nI 16) ≤ x1 → (vp_in x1 16 ∧ (Q (I 314 x1.toNatClampNeg) I))))))))
set_option maxHeartbeats 4000000 in
set_option maxRecDepth 100000 in
theorem w_X0_traceAt_0 {E : EE} {p : Program} {l : Launch} {e : Env} {s : State} {m : MethodId} {args : Array Value} {below : List Frame} {meth : Method} {c : Code} {Q : Int32 → II → Prop} (X : CX E p s m args meth c cX0_traceAt 2 (some .int) RX0) : ∀ (x1 : Int32) (I : II) (H : Heap) (locs : List Loc) (ls : Array Slot), wp_X0_traceAt x1 I Q → PP E s H locs I → lv_has ls 2 [(0, .ref (E.2.1 313)), (1, .int x1)] → W p l e rmX0_traceAt s m args below meth c H locs 0 0 (MQ below (va_Qi Q (BU E) E.2.2.2.1) args s 0 0 E.2.2.2.1) (F0 m 0 ls []) := by
  obtain ⟨⟨hx, hb, hml, hown, hts⟩, hr, hlk, hK, hST, hN⟩ := id X
  intro x1 I H locs ls h hp hl
  unfold wp_X0_traceAt at h
  refine lv_iload_n hx hb dX0_traceAt_0 rfl (lv_at hl 1 rfl) ?_
  refine lv_if_lt (tgt := 27) hx hb dX0_traceAt_1 (by decide) (fun c1 => ?_) (fun c1 => ?_)
  · have h := h.1 c1
    refine lv_ldc (v := (-nI 1000000)) hx hb hown (hts _ tw_k_X0_49) dX0_traceAt_27 ?_
    exact rt_i X hp h dX0_traceAt_29
  · have h := h.2 c1
    refine lv_iload_n hx hb dX0_traceAt_4 rfl (lv_at hl 1 rfl) ?_
    refine lv_aload_n hx hb dX0_traceAt_5 rfl (lv_at hl 0 rfl) ?_
    refine f_X0_15 X hp dX0_traceAt_6 ?_
    refine lv_icmp_ge (tgt := 27) hx hb dX0_traceAt_9 (by decide) (fun c2 => ?_) (fun c2 => ?_)
    · have h := h.1 c2
      refine lv_ldc (v := (-nI 1000000)) hx hb hown (hts _ tw_k_X0_49) dX0_traceAt_27 ?_
      exact rt_i X hp h dX0_traceAt_29
    · have h := h.2 c2
      refine lv_iload_n hx hb dX0_traceAt_12 rfl (lv_at hl 1 rfl) ?_
      refine lv_bipush (v := (nI 16)) hx hb dX0_traceAt_13 (by decide) ?_
      refine lv_icmp_ge (tgt := 27) hx hb dX0_traceAt_15 (by decide) (fun c3 => ?_) (fun c3 => ?_)
      · have h := h.1 c3
        refine lv_ldc (v := (-nI 1000000)) hx hb hown (hts _ tw_k_X0_49) dX0_traceAt_27 ?_
        exact rt_i X hp h dX0_traceAt_29
      · have h := h.2 c3
        refine lv_aload_n hx hb dX0_traceAt_18 rfl (lv_at hl 0 rfl) ?_
        refine f_X0_9 X hp dX0_traceAt_19 ?_
        refine lv_iload_n hx hb dX0_traceAt_22 rfl (lv_at hl 1 rfl) ?_
        have hv4 := h.1
        have h := h.2
        refine al_i X hp ar_s314 hv4 dX0_traceAt_23 ?_
        refine lv_goto (tgt := 29) hx hb dX0_traceAt_24 (by decide) ?_
        exact rt_i X hp h dX0_traceAt_29
set_option maxRecDepth 100000 in
theorem C_X0_traceAt {E : EE} {l : Launch} {x1 : Int32} {I : II} {Q : Int32 → II → Prop} (h : wp_X0_traceAt x1 I Q) : Met l yX0_traceAt (Cond.code yX0_traceAt cX0_traceAt 2 (some .int) :: lwT) rmX0_traceAt (va_Pc [.ref (E.2.1 313), .int x1] (PU E I)) (va_Qi Q (BU E) E.2.2.2.1) 0 0 E.2.2.2.1 :=
  ofWalk [.ref (E.2.1 313), .int x1] (by decide) tw_c_X0_traceAt (Nat.le_of_ble_eq_true rfl) (fun p e s m below meth c ls X hp hl => w_X0_traceAt_0 X _ _ _ _ _ h hp hl)

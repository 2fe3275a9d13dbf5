abbrev rmX1_hasTeller : Room := { frames := 0, cells := 0, slots := 0, locals := 0 }
theorem vf_X1_hasTeller : VF yX1_hasTeller RX1 cX1_hasTeller 2 (some .boolean) 1 := ⟨tw_in_X1, tw_im_X1_hasTeller, tw_se_X1_hasTeller, tw_c_X1_hasTeller, by decide, by decide, by decide +kernel⟩
def wp_X1_hasTeller (j : Nat) (x1 : Int32) (I : II) (Q : Int32 → II → Prop) : Prop := ((x1 < 0 → (Q (nI 0) I)) ∧ (¬ x1 < 0 → (((I (8 * j) 2) ≤ x1 → (Q (nI 0) I)) ∧ (¬ (I (8 * j) 2) ≤ x1 → (((nI 4) ≤ x1 → (Q (nI 0) I)) ∧ (¬ (nI 4) ≤ x1 → (Q (nI 1) I)))))))
set_option maxHeartbeats 4000000 in
set_option maxRecDepth 100000 in
theorem w_X1_hasTeller_0 {E : EE} {p : Program} {l : Launch} {e : Env} {s : State} {m : MethodId} {args : Array Value} {below : List Frame} {meth : Method} {c : Code} {Q : Int32 → II → Prop} (X : CX E p s m args meth c cX1_hasTeller 2 (some .boolean) RX1) {j : Nat} (hj : j < 37) : ∀ (x1 : Int32) (I : II) (H : Heap) (locs : List Loc) (ls : Array Slot), wp_X1_hasTeller j x1 I Q → PP E s H locs I → lv_has ls 2 [(0, .ref (E.2.1 (8 * j))), (1, .int x1)] → W p l e rmX1_hasTeller s m args below meth c H locs 0 0 (MQ below (va_Qi Q (BU E) E.2.2.2.1) args s 0 0 E.2.2.2.1) (F0 m 0 ls []) := by
  obtain ⟨⟨hx, hb, hml, hown, hts⟩, hr, hlk, hK, hST, hN⟩ := id X
  intro x1 I H locs ls h hp hl
  unfold wp_X1_hasTeller at h
  refine lv_iload_n hx hb dX1_hasTeller_0 rfl (lv_at hl 1 rfl) ?_
  refine lv_if_lt (tgt := 21) hx hb dX1_hasTeller_1 (by decide) (fun c1 => ?_) (fun c1 => ?_)
  · have h := h.1 c1
    refine lv_iconst (v := (nI 0)) hx hb dX1_hasTeller_21 (by decide) ?_
    exact rt_z X hp ⟨Or.inl rfl, h⟩ dX1_hasTeller_22
  · have h := h.2 c1
    refine lv_iload_n hx hb dX1_hasTeller_4 rfl (lv_at hl 1 rfl) ?_
    refine lv_aload_n hx hb dX1_hasTeller_5 rfl (lv_at hl 0 rfl) ?_
    refine f_X1_33 X hp hj dX1_hasTeller_6 ?_
    refine lv_icmp_ge (tgt := 21) hx hb dX1_hasTeller_9 (by decide) (fun c2 => ?_) (fun c2 => ?_)
    · have h := h.1 c2
      refine lv_iconst (v := (nI 0)) hx hb dX1_hasTeller_21 (by decide) ?_
      exact rt_z X hp ⟨Or.inl rfl, h⟩ dX1_hasTeller_22
    · have h := h.2 c2
      refine lv_iload_n hx hb dX1_hasTeller_12 rfl (lv_at hl 1 rfl) ?_
      refine lv_iconst (v := (nI 4)) hx hb dX1_hasTeller_13 (by decide) ?_
      refine lv_icmp_ge (tgt := 21) hx hb dX1_hasTeller_14 (by decide) (fun c3 => ?_) (fun c3 => ?_)
      · have h := h.1 c3
        refine lv_iconst (v := (nI 0)) hx hb dX1_hasTeller_21 (by decide) ?_
        exact rt_z X hp ⟨Or.inl rfl, h⟩ dX1_hasTeller_22
      · have h := h.2 c3
        refine lv_iconst (v := (nI 1)) hx hb dX1_hasTeller_17 (by decide) ?_
        refine lv_goto (tgt := 22) hx hb dX1_hasTeller_18 (by decide) ?_
        exact rt_z X hp ⟨Or.inr rfl, h⟩ dX1_hasTeller_22
set_option maxRecDepth 100000 in
theorem C_X1_hasTeller {E : EE} {l : Launch} {j : Nat} (hj : j < 37) {x1 : Int32} {I : II} {Q : Int32 → II → Prop} (h : wp_X1_hasTeller j x1 I Q) : Met l yX1_hasTeller (Cond.code yX1_hasTeller cX1_hasTeller 2 (some .boolean) :: lwT) rmX1_hasTeller (va_Pc [.ref (E.2.1 (8 * j)), .int x1] (PU E I)) (va_Qi Q (BU E) E.2.2.2.1) 0 0 E.2.2.2.1 :=
  ofWalk [.ref (E.2.1 (8 * j)), .int x1] (by decide) tw_c_X1_hasTeller (Nat.le_of_ble_eq_true rfl) (fun p e s m below meth c ls X hp hl => w_X1_hasTeller_0 X hj _ _ _ _ _ h hp hl)
abbrev rmX1_clear : Room := { frames := 0, cells := 0, slots := 0, locals := 0 }
theorem vf_X1_clear : VF yX1_clear RX1 cX1_clear 1 none 0 := ⟨tw_in_X1, tw_im_X1_clear, tw_se_X1_clear, tw_c_X1_clear, by decide, by decide, by decide +kernel⟩
def wp_X1_clear (j : Nat) (I : II) (Q : II → Prop) : Prop := (∀ I1 : II, I1 = su I (8 * j) 2 (nI 0) → (∀ I3 : II, I3 = su I1 (8 * j) 3 (nI 0) → (∀ I5 : II, I5 = su I3 (8 * j) 4 (nI 0) → (∀ I7 : II, I7 = su I5 (8 * j) 5 (nI 0) → (∀ I9 : II, I9 = su I7 (8 * j) 6 (nI 0) → (∀ I11 : II, I11 = su I9 (8 * j) 7 (nI 0) → (∀ I13 : II, I13 = su I11 (8 * j) 8 (nI 0) → (∀ I15 : II, I15 = su I13 (8 * j) 9 (nI 0) → (Q I15)))))))))
set_option maxHeartbeats 4000000 in
set_option maxRecDepth 100000 in
theorem w_X1_clear_0 {E : EE} {p : Program} {l : Launch} {e : Env} {s : State} {m : MethodId} {args : Array Value} {below : List Frame} {meth : Method} {c : Code} {Q : II → Prop} (X : CX E p s m args meth c cX1_clear 1 none RX1) {j : Nat} (hj : j < 37) : ∀ (I : II) (H : Heap) (locs : List Loc) (ls : Array Slot), wp_X1_clear j I Q → PP E s H locs I → lv_has ls 1 [(0, .ref (E.2.1 (8 * j)))] → W p l e rmX1_clear s m args below meth c H locs 0 0 (MQ below (va_Qv Q (BU E) E.2.2.2.1) args s 0 0 E.2.2.2.1) (F0 m 0 ls []) := by
  obtain ⟨⟨hx, hb, hml, hown, hts⟩, hr, hlk, hK, hST, hN⟩ := id X
  intro I H locs ls h hp hl
  unfold wp_X1_clear at h
  refine lv_aload_n hx hb dX1_clear_0 rfl (lv_at hl 0 rfl) ?_
  refine lv_iconst (v := (nI 0)) hx hb dX1_clear_1 (by decide) ?_
  refine g_X1_33 X hp hj dX1_clear_2 (fun H locs hp => ?_)
  obtain ⟨I1, e2⟩ : ∃ y, y = su I (8 * j) 2 (nI 0) := ⟨_, rfl⟩
  have hp : PP E s H locs I1 := by rw [e2]; exact hp
  have h := h I1 e2
  refine lv_aload_n hx hb dX1_clear_5 rfl (lv_at hl 0 rfl) ?_
  refine lv_iconst (v := (nI 0)) hx hb dX1_clear_6 (by decide) ?_
  refine g_X1_37 X hp hj dX1_clear_7 (fun H locs hp => ?_)
  obtain ⟨I3, e4⟩ : ∃ y, y = su I1 (8 * j) 3 (nI 0) := ⟨_, rfl⟩
  have hp : PP E s H locs I3 := by rw [e4]; exact hp
  have h := h I3 e4
  refine lv_aload_n hx hb dX1_clear_10 rfl (lv_at hl 0 rfl) ?_
  refine lv_iconst (v := (nI 0)) hx hb dX1_clear_11 (by decide) ?_
  refine g_X1_40 X hp hj dX1_clear_12 (fun H locs hp => ?_)
  obtain ⟨I5, e6⟩ : ∃ y, y = su I3 (8 * j) 4 (nI 0) := ⟨_, rfl⟩
  have hp : PP E s H locs I5 := by rw [e6]; exact hp
  have h := h I5 e6
  refine lv_aload_n hx hb dX1_clear_15 rfl (lv_at hl 0 rfl) ?_
  refine lv_iconst (v := (nI 0)) hx hb dX1_clear_16 (by decide) ?_
  refine g_X1_43 X hp hj dX1_clear_17 (fun H locs hp => ?_)
  obtain ⟨I7, e8⟩ : ∃ y, y = su I5 (8 * j) 5 (nI 0) := ⟨_, rfl⟩
  have hp : PP E s H locs I7 := by rw [e8]; exact hp
  have h := h I7 e8
  refine lv_aload_n hx hb dX1_clear_20 rfl (lv_at hl 0 rfl) ?_
  refine lv_iconst (v := (nI 0)) hx hb dX1_clear_21 (by decide) ?_
  refine g_X1_46 X hp hj dX1_clear_22 (fun H locs hp => ?_)
  obtain ⟨I9, e10⟩ : ∃ y, y = su I7 (8 * j) 6 (nI 0) := ⟨_, rfl⟩
  have hp : PP E s H locs I9 := by rw [e10]; exact hp
  have h := h I9 e10
  refine lv_aload_n hx hb dX1_clear_25 rfl (lv_at hl 0 rfl) ?_
  refine lv_iconst (v := (nI 0)) hx hb dX1_clear_26 (by decide) ?_
  refine g_X1_49 X hp hj dX1_clear_27 (fun H locs hp => ?_)
  obtain ⟨I11, e12⟩ : ∃ y, y = su I9 (8 * j) 7 (nI 0) := ⟨_, rfl⟩
  have hp : PP E s H locs I11 := by rw [e12]; exact hp
  have h := h I11 e12
  refine lv_aload_n hx hb dX1_clear_30 rfl (lv_at hl 0 rfl) ?_
  refine lv_iconst (v := (nI 0)) hx hb dX1_clear_31 (by decide) ?_
  refine g_X1_52 X hp hj dX1_clear_32 (fun H locs hp => ?_)
  obtain ⟨I13, e14⟩ : ∃ y, y = su I11 (8 * j) 8 (nI 0) := ⟨_, rfl⟩
  have hp : PP E s H locs I13 := by rw [e14]; exact hp
  have h := h I13 e14
  refine lv_aload_n hx hb dX1_clear_35 rfl (lv_at hl 0 rfl) ?_
  refine lv_iconst (v := (nI 0)) hx hb dX1_clear_36 (by decide) ?_
  refine g_X1_55 X hp hj dX1_clear_37 (fun H locs hp => ?_)
  obtain ⟨I15, e16⟩ : ∃ y, y = su I13 (8 * j) 9 (nI 0) := ⟨_, rfl⟩
  have hp : PP E s H locs I15 := by rw [e16]; exact hp
  have h := h I15 e16
  exact rt_v X hp h dX1_clear_40
set_option maxRecDepth 100000 in
theorem C_X1_clear {E : EE} {l : Launch} {j : Nat} (hj : j < 37) {I : II} {Q : II → Prop} (h : wp_X1_clear j I Q) : Met l yX1_clear (Cond.code yX1_clear cX1_clear 1 none :: lwT) rmX1_clear (va_Pc [.ref (E.2.1 (8 * j))] (PU E I)) (va_Qv Q (BU E) E.2.2.2.1) 0 0 E.2.2.2.1 :=
  ofWalk [.ref (E.2.1 (8 * j))] (by decide) tw_c_X1_clear (Nat.le_of_ble_eq_true rfl) (fun p e s m below meth c ls X hp hl => w_X1_clear_0 X hj _ _ _ _ h hp hl)
abbrev rmX1_takeCourse : Room := { frames := 0, cells := 0, slots := 0, locals := 0 }
theorem vf_X1_takeCourse : VF yX1_takeCourse RX1 cX1_takeCourse 3 none 1 := ⟨tw_in_X1, tw_im_X1_takeCourse, tw_se_X1_takeCourse, tw_c_X1_takeCourse, by decide, by decide, by decide +kernel⟩
def wp_X1_takeCourse_26 (j : Nat) (o : Nat) (Q : II → Prop) (k49 : II → Prop) : Nat → Int32 → II → Prop
  | 0, _, _ => False
  | n + 1, x2, I => (((nI 4) ≤ x2 → (k49 I)) ∧ (¬ (nI 4) ≤ x2 → (vp_in x2 4 ∧ (vp_in x2 4 ∧ ∀ I4 : II, I4 = su I (8 * j + 4) x2.toNatClampNeg (I (8 * o + 4) x2.toNatClampNeg) → (wp_X1_takeCourse_26 j o Q k49 n (x2 + (nI 1)) I4)))))
set_option maxHeartbeats 4000000 in
set_option maxRecDepth 100000 in
theorem w_X1_takeCourse_26 {E : EE} {p : Program} {l : Launch} {e : Env} {s : State} {m : MethodId} {args : Array Value} {below : List Frame} {meth : Method} {c : Code} {Q : II → Prop} {k49 : II → Prop} (X : CX E p s m args meth c cX1_takeCourse 3 none RX1) {j : Nat} (hj : j < 37) {o : Nat} (ho : o < 37) (K49 : ∀ (I : II) (H : Heap) (locs : List Loc) (ls : Array Slot), k49 I → PP E s H locs I → lv_has ls 3 [] → W p l e rmX1_takeCourse s m args below meth c H locs 0 0 (MQ below (va_Qv Q (BU E) E.2.2.2.1) args s 0 0 E.2.2.2.1) (F0 m 49 ls [])) : ∀ (n : Nat) (x2 : Int32) (I : II) (H : Heap) (locs : List Loc) (ls : Array Slot), wp_X1_takeCourse_26 j o Q k49 n x2 I → PP E s H locs I → lv_has ls 3 [(0, .ref (E.2.1 (8 * j))), (1, .ref (E.2.1 (8 * o))), (2, .int x2)] → W p l e rmX1_takeCourse s m args below meth c H locs 0 0 (MQ below (va_Qv Q (BU E) E.2.2.2.1) args s 0 0 E.2.2.2.1) (F0 m 26 ls []) := by
  obtain ⟨⟨hx, hb, hml, hown, hts⟩, hr, hlk, hK, hST, hN⟩ := id X
  intro n
  induction n with
  | zero =>
    intro x2 I H locs ls h hp hl
    exact False.elim h
  | succ n ih =>
    intro x2 I H locs ls h hp hl
    rw [wp_X1_takeCourse_26.eq_2] at h
    refine lv_iload_n hx hb dX1_takeCourse_26 rfl (lv_at hl 2 rfl) ?_
    refine lv_iconst (v := (nI 4)) hx hb dX1_takeCourse_27 (by decide) ?_
    refine lv_icmp_ge (tgt := 49) hx hb dX1_takeCourse_28 (by decide) (fun c1 => ?_) (fun c1 => ?_)
    · have h := h.1 c1
      exact K49 _ _ _ _ h hp (lv_sub hl [] rfl)
    · have h := h.2 c1
      refine lv_aload_n hx hb dX1_takeCourse_31 rfl (lv_at hl 0 rfl) ?_
      refine f_X1_21 X hp hj dX1_takeCourse_32 ?_
      refine lv_iload_n hx hb dX1_takeCourse_35 rfl (lv_at hl 2 rfl) ?_
      refine lv_aload_n hx hb dX1_takeCourse_36 rfl (lv_at hl 1 rfl) ?_
      refine f_X1_21 X hp ho dX1_takeCourse_37 ?_
      refine lv_iload_n hx hb dX1_takeCourse_40 rfl (lv_at hl 2 rfl) ?_
      have hv2 := h.1
      have h := h.2
      refine al_i X hp (ar_4 ho) hv2 dX1_takeCourse_41 ?_
      have hv3 := h.1
      have h := h.2
      refine as_i X hp (ar_4 hj) hv3 dX1_takeCourse_42 (fun H locs hp => ?_)
      obtain ⟨I4, e5⟩ : ∃ y, y = su I (8 * j + 4) x2.toNatClampNeg (I (8 * o + 4) x2.toNatClampNeg) := ⟨_, rfl⟩
      have hp : PP E s H locs I4 := by rw [e5]; exact hp
      have h := h I4 e5
      refine lv_iinc (v := (x2 + (nI 1))) (lv' := [(2, .int (x2 + (nI 1))), (0, .ref (E.2.1 (8 * j))), (1, .ref (E.2.1 (8 * o)))]) hx hb dX1_takeCourse_43 hl (k := 2) rfl rfl (by decide) rfl (fun ls hl => ?_)
      refine lv_goto (tgt := 26) hx hb dX1_takeCourse_46 (by decide) ?_
      exact ih _ _ _ _ _ h hp (lv_sub hl [1, 2, 0] rfl)
def wp_X1_takeCourse (j : Nat) (o : Nat) (I : II) (Q : II → Prop) : Prop := (∀ I1 : II, I1 = su I (8 * j) 4 (I (8 * o) 4) → (∀ I3 : II, I3 = su I1 (8 * j) 5 (I1 (8 * o) 5) → (∀ I5 : II, I5 = su I3 (8 * j) 6 (I3 (8 * o) 6) → (∃ n57, wp_X1_takeCourse_26 j o Q (fun I => (Q I)) n57 (nI 0) I5))))
set_option maxHeartbeats 4000000 in
set_option maxRecDepth 100000 in
theorem w_X1_takeCourse_0 {E : EE} {p : Program} {l : Launch} {e : Env} {s : State} {m : MethodId} {args : Array Value} {below : List Frame} {meth : Method} {c : Code} {Q : II → Prop} (X : CX E p s m args meth c cX1_takeCourse 3 none RX1) {j : Nat} (hj : j < 37) {o : Nat} (ho : o < 37) : ∀ (I : II) (H : Heap) (locs : List Loc) (ls : Array Slot), wp_X1_takeCourse j o I Q → PP E s H locs I → lv_has ls 3 [(0, .ref (E.2.1 (8 * j))), (1, .ref (E.2.1 (8 * o)))] → W p l e rmX1_takeCourse s m args below meth c H locs 0 0 (MQ below (va_Qv Q (BU E) E.2.2.2.1) args s 0 0 E.2.2.2.1) (F0 m 0 ls []) := by
  obtain ⟨⟨hx, hb, hml, hown, hts⟩, hr, hlk, hK, hST, hN⟩ := id X
  intro I H locs ls h hp hl
  unfold wp_X1_takeCourse at h
  refine lv_aload_n hx hb dX1_takeCourse_0 rfl (lv_at hl 0 rfl) ?_
  refine lv_aload_n hx hb dX1_takeCourse_1 rfl (lv_at hl 1 rfl) ?_
  refine f_X1_40 X hp ho dX1_takeCourse_2 ?_
  refine g_X1_40 X hp hj dX1_takeCourse_5 (fun H locs hp => ?_)
  obtain ⟨I1, e2⟩ : ∃ y, y = su I (8 * j) 4 (I (8 * o) 4) := ⟨_, rfl⟩
  have hp : PP E s H locs I1 := by rw [e2]; exact hp
  have h := h I1 e2
  refine lv_aload_n hx hb dX1_takeCourse_8 rfl (lv_at hl 0 rfl) ?_
  refine lv_aload_n hx hb dX1_takeCourse_9 rfl (lv_at hl 1 rfl) ?_
  refine f_X1_43 X hp ho dX1_takeCourse_10 ?_
  refine g_X1_43 X hp hj dX1_takeCourse_13 (fun H locs hp => ?_)
  obtain ⟨I3, e4⟩ : ∃ y, y = su I1 (8 * j) 5 (I1 (8 * o) 5) := ⟨_, rfl⟩
  have hp : PP E s H locs I3 := by rw [e4]; exact hp
  have h := h I3 e4
  refine lv_aload_n hx hb dX1_takeCourse_16 rfl (lv_at hl 0 rfl) ?_
  refine lv_aload_n hx hb dX1_takeCourse_17 rfl (lv_at hl 1 rfl) ?_
  refine f_X1_46 X hp ho dX1_takeCourse_18 ?_
  refine g_X1_46 X hp hj dX1_takeCourse_21 (fun H locs hp => ?_)
  obtain ⟨I5, e6⟩ : ∃ y, y = su I3 (8 * j) 6 (I3 (8 * o) 6) := ⟨_, rfl⟩
  have hp : PP E s H locs I5 := by rw [e6]; exact hp
  have h := h I5 e6
  refine lv_iconst (v := (nI 0)) hx hb dX1_takeCourse_24 (by decide) ?_
  refine lv_istore_n (lv' := [(2, .int (nI 0)), (0, .ref (E.2.1 (8 * j))), (1, .ref (E.2.1 (8 * o)))]) hx hb dX1_takeCourse_25 rfl hl (by decide) rfl (fun ls hl => ?_)
  obtain ⟨n57, h⟩ := h
  refine w_X1_takeCourse_26 X hj ho ?_ n57 _ _ _ _ _ h hp (lv_sub hl [1, 2, 0] rfl)
  · intro I H locs ls h hp hl
    exact rt_v X hp h dX1_takeCourse_49
set_option maxRecDepth 100000 in
theorem C_X1_takeCourse {E : EE} {l : Launch} {j : Nat} (hj : j < 37) {o : Nat} (ho : o < 37) {I : II} {Q : II → Prop} (h : wp_X1_takeCourse j o I Q) : Met l yX1_takeCourse (Cond.code yX1_takeCourse cX1_takeCourse 3 none :: lwT) rmX1_takeCourse (va_Pc [.ref (E.2.1 (8 * j)), .ref (E.2.1 (8 * o))] (PU E I)) (va_Qv Q (BU E) E.2.2.2.1) 0 0 E.2.2.2.1 :=
  ofWalk [.ref (E.2.1 (8 * j)), .ref (E.2.1 (8 * o))] (by decide) tw_c_X1_takeCourse (Nat.le_of_ble_eq_true rfl) (fun p e s m below meth c ls X hp hl => w_X1_takeCourse_0 X hj ho _ _ _ _ h hp hl)
abbrev rmX1_takeAll : Room := { frames := 1, cells := 0, slots := 0, locals := 22 }
theorem vf_X1_takeAll : VF yX1_takeAll RX1 cX1_takeAll 3 none 1 := ⟨tw_in_X1, tw_im_X1_takeAll, tw_se_X1_takeAll, tw_c_X1_takeAll, by decide, by decide, by decide +kernel⟩
def wp_X1_takeAll_58 (j : Nat) (o : Nat) (Q : II → Prop) (k117 : II → Prop) : Nat → Int32 → II → Prop
  | 0, _, _ => False
  | n + 1, x2, I => (((nI 4) ≤ x2 → (k117 I)) ∧ (¬ (nI 4) ≤ x2 → (vp_in x2 4 ∧ (vp_in x2 4 ∧ ∀ I4 : II, I4 = su I (8 * j + 1) x2.toNatClampNeg (I (8 * o + 1) x2.toNatClampNeg) → (vp_in x2 4 ∧ (vp_in x2 4 ∧ ∀ I8 : II, I8 = su I4 (8 * j + 2) x2.toNatClampNeg (I4 (8 * o + 2) x2.toNatClampNeg) → (vp_in x2 4 ∧ (vp_in x2 4 ∧ ∀ I12 : II, I12 = su I8 (8 * j + 3) x2.toNatClampNeg (I8 (8 * o + 3) x2.toNatClampNeg) → (vp_in x2 4 ∧ (vp_in x2 4 ∧ ∀ I16 : II, I16 = su I12 (8 * j + 5) x2.toNatClampNeg (I12 (8 * o + 5) x2.toNatClampNeg) → (wp_X1_takeAll_58 j o Q k117 n (x2 + (nI 1)) I16)))))))))))
set_option maxHeartbeats 4000000 in
set_option maxRecDepth 100000 in
theorem w_X1_takeAll_58 {E : EE} {p : Program} {l : Launch} {e : Env} {s : State} {m : MethodId} {args : Array Value} {below : List Frame} {meth : Method} {c : Code} {Q : II → Prop} {k117 : II → Prop} (X : CX E p s m args meth c cX1_takeAll 3 none RX1) {j : Nat} (hj : j < 37) {o : Nat} (ho : o < 37) (K117 : ∀ (I : II) (H : Heap) (locs : List Loc) (ls : Array Slot), k117 I → PP E s H locs I → lv_has ls 3 [(0, .ref (E.2.1 (8 * j))), (1, .ref (E.2.1 (8 * o)))] → W p l e rmX1_takeAll s m args below meth c H locs 0 0 (MQ below (va_Qv Q (BU E) E.2.2.2.1) args s 0 0 E.2.2.2.1) (F0 m 117 ls [])) : ∀ (n : Nat) (x2 : Int32) (I : II) (H : Heap) (locs : List Loc) (ls : Array Slot), wp_X1_takeAll_58 j o Q k117 n x2 I → PP E s H locs I → lv_has ls 3 [(0, .ref (E.2.1 (8 * j))), (1, .ref (E.2.1 (8 * o))), (2, .int x2)] → W p l e rmX1_takeAll s m args below meth c H locs 0 0 (MQ below (va_Qv Q (BU E) E.2.2.2.1) args s 0 0 E.2.2.2.1) (F0 m 58 ls []) := by
  obtain ⟨⟨hx, hb, hml, hown, hts⟩, hr, hlk, hK, hST, hN⟩ := id X
  intro n
  induction n with
  | zero =>
    intro x2 I H locs ls h hp hl
    exact False.elim h
  | succ n ih =>
    intro x2 I H locs ls h hp hl
    rw [wp_X1_takeAll_58.eq_2] at h
    refine lv_iload_n hx hb dX1_takeAll_58 rfl (lv_at hl 2 rfl) ?_
    refine lv_iconst (v := (nI 4)) hx hb dX1_takeAll_59 (by decide) ?_
    refine lv_icmp_ge (tgt := 117) hx hb dX1_takeAll_60 (by decide) (fun c1 => ?_) (fun c1 => ?_)
    · have h := h.1 c1
      exact K117 _ _ _ _ h hp (lv_sub hl [0, 1] rfl)
    · have h := h.2 c1
      refine lv_aload_n hx hb dX1_takeAll_63 rfl (lv_at hl 0 rfl) ?_
      refine f_X1_9 X hp hj dX1_takeAll_64 ?_
      refine lv_iload_n hx hb dX1_takeAll_67 rfl (lv_at hl 2 rfl) ?_
      refine lv_aload_n hx hb dX1_takeAll_68 rfl (lv_at hl 1 rfl) ?_
      refine f_X1_9 X hp ho dX1_takeAll_69 ?_
      refine lv_iload_n hx hb dX1_takeAll_72 rfl (lv_at hl 2 rfl) ?_
      have hv2 := h.1
      have h := h.2
      refine al_i X hp (ar_1 ho) hv2 dX1_takeAll_73 ?_
      have hv3 := h.1
      have h := h.2
      refine as_i X hp (ar_1 hj) hv3 dX1_takeAll_74 (fun H locs hp => ?_)
      obtain ⟨I4, e5⟩ : ∃ y, y = su I (8 * j + 1) x2.toNatClampNeg (I (8 * o + 1) x2.toNatClampNeg) := ⟨_, rfl⟩
      have hp : PP E s H locs I4 := by rw [e5]; exact hp
      have h := h I4 e5
      refine lv_aload_n hx hb dX1_takeAll_75 rfl (lv_at hl 0 rfl) ?_
      refine f_X1_15 X hp hj dX1_takeAll_76 ?_
      refine lv_iload_n hx hb dX1_takeAll_79 rfl (lv_at hl 2 rfl) ?_
      refine lv_aload_n hx hb dX1_takeAll_80 rfl (lv_at hl 1 rfl) ?_
      refine f_X1_15 X hp ho dX1_takeAll_81 ?_
      refine lv_iload_n hx hb dX1_takeAll_84 rfl (lv_at hl 2 rfl) ?_
      have hv6 := h.1
      have h := h.2
      refine al_i X hp (ar_2 ho) hv6 dX1_takeAll_85 ?_
      have hv7 := h.1
      have h := h.2
      refine as_i X hp (ar_2 hj) hv7 dX1_takeAll_86 (fun H locs hp => ?_)
      obtain ⟨I8, e9⟩ : ∃ y, y = su I4 (8 * j + 2) x2.toNatClampNeg (I4 (8 * o + 2) x2.toNatClampNeg) := ⟨_, rfl⟩
      have hp : PP E s H locs I8 := by rw [e9]; exact hp
      have h := h I8 e9
      refine lv_aload_n hx hb dX1_takeAll_87 rfl (lv_at hl 0 rfl) ?_
      refine f_X1_18 X hp hj dX1_takeAll_88 ?_
      refine lv_iload_n hx hb dX1_takeAll_91 rfl (lv_at hl 2 rfl) ?_
      refine lv_aload_n hx hb dX1_takeAll_92 rfl (lv_at hl 1 rfl) ?_
      refine f_X1_18 X hp ho dX1_takeAll_93 ?_
      refine lv_iload_n hx hb dX1_takeAll_96 rfl (lv_at hl 2 rfl) ?_
      have hv10 := h.1
      have h := h.2
      refine al_i X hp (ar_3 ho) hv10 dX1_takeAll_97 ?_
      have hv11 := h.1
      have h := h.2
      refine as_i X hp (ar_3 hj) hv11 dX1_takeAll_98 (fun H locs hp => ?_)
      obtain ⟨I12, e13⟩ : ∃ y, y = su I8 (8 * j + 3) x2.toNatClampNeg (I8 (8 * o + 3) x2.toNatClampNeg) := ⟨_, rfl⟩
      have hp : PP E s H locs I12 := by rw [e13]; exact hp
      have h := h I12 e13
      refine lv_aload_n hx hb dX1_takeAll_99 rfl (lv_at hl 0 rfl) ?_
      refine f_X1_24 X hp hj dX1_takeAll_100 ?_
      refine lv_iload_n hx hb dX1_takeAll_103 rfl (lv_at hl 2 rfl) ?_
      refine lv_aload_n hx hb dX1_takeAll_104 rfl (lv_at hl 1 rfl) ?_
      refine f_X1_24 X hp ho dX1_takeAll_105 ?_
      refine lv_iload_n hx hb dX1_takeAll_108 rfl (lv_at hl 2 rfl) ?_
      have hv14 := h.1
      have h := h.2
      refine al_i X hp (ar_5 ho) hv14 dX1_takeAll_109 ?_
      have hv15 := h.1
      have h := h.2
      refine as_i X hp (ar_5 hj) hv15 dX1_takeAll_110 (fun H locs hp => ?_)
      obtain ⟨I16, e17⟩ : ∃ y, y = su I12 (8 * j + 5) x2.toNatClampNeg (I12 (8 * o + 5) x2.toNatClampNeg) := ⟨_, rfl⟩
      have hp : PP E s H locs I16 := by rw [e17]; exact hp
      have h := h I16 e17
      refine lv_iinc (v := (x2 + (nI 1))) (lv' := [(2, .int (x2 + (nI 1))), (0, .ref (E.2.1 (8 * j))), (1, .ref (E.2.1 (8 * o)))]) hx hb dX1_takeAll_111 hl (k := 2) rfl rfl (by decide) rfl (fun ls hl => ?_)
      refine lv_goto (tgt := 58) hx hb dX1_takeAll_114 (by decide) ?_
      exact ih _ _ _ _ _ h hp (lv_sub hl [1, 2, 0] rfl)
def wp_X1_takeAll_119 (j : Nat) (o : Nat) (Q : II → Prop) (k155 : II → Prop) : Nat → Int32 → II → Prop
  | 0, _, _ => False
  | n + 1, x2, I => (((nI 7) ≤ x2 → (k155 I)) ∧ (¬ (nI 7) ≤ x2 → (vp_in x2 7 ∧ (vp_in x2 7 ∧ ∀ I4 : II, I4 = su I (8 * j + 6) x2.toNatClampNeg (I (8 * o + 6) x2.toNatClampNeg) → (vp_in x2 7 ∧ (vp_in x2 7 ∧ ∀ I8 : II, I8 = su I4 (8 * j + 7) x2.toNatClampNeg (I4 (8 * o + 7) x2.toNatClampNeg) → (wp_X1_takeAll_119 j o Q k155 n (x2 + (nI 1)) I8)))))))
set_option maxHeartbeats 4000000 in
set_option maxRecDepth 100000 in
theorem w_X1_takeAll_119 {E : EE} {p : Program} {l : Launch} {e : Env} {s : State} {m : MethodId} {args : Array Value} {below : List Frame} {meth : Method} {c : Code} {Q : II → Prop} {k155 : II → Prop} (X : CX E p s m args meth c cX1_takeAll 3 none RX1) {j : Nat} (hj : j < 37) {o : Nat} (ho : o < 37) (K155 : ∀ (I : II) (H : Heap) (locs : List Loc) (ls : Array Slot), k155 I → PP E s H locs I → lv_has ls 3 [(0, .ref (E.2.1 (8 * j))), (1, .ref (E.2.1 (8 * o)))] → W p l e rmX1_takeAll s m args below meth c H locs 0 0 (MQ below (va_Qv Q (BU E) E.2.2.2.1) args s 0 0 E.2.2.2.1) (F0 m 155 ls [])) : ∀ (n : Nat) (x2 : Int32) (I : II) (H : Heap) (locs : List Loc) (ls : Array Slot), wp_X1_takeAll_119 j o Q k155 n x2 I → PP E s H locs I → lv_has ls 3 [(0, .ref (E.2.1 (8 * j))), (1, .ref (E.2.1 (8 * o))), (2, .int x2)] → W p l e rmX1_takeAll s m args below meth c H locs 0 0 (MQ below (va_Qv Q (BU E) E.2.2.2.1) args s 0 0 E.2.2.2.1) (F0 m 119 ls []) := by
  obtain ⟨⟨hx, hb, hml, hown, hts⟩, hr, hlk, hK, hST, hN⟩ := id X
  intro n
  induction n with
  | zero =>
    intro x2 I H locs ls h hp hl
    exact False.elim h
  | succ n ih =>
    intro x2 I H locs ls h hp hl
    rw [wp_X1_takeAll_119.eq_2] at h
    refine lv_iload_n hx hb dX1_takeAll_119 rfl (lv_at hl 2 rfl) ?_
    refine lv_bipush (v := (nI 7)) hx hb dX1_takeAll_120 (by decide) ?_
    refine lv_icmp_ge (tgt := 155) hx hb dX1_takeAll_122 (by decide) (fun c1 => ?_) (fun c1 => ?_)
    · have h := h.1 c1
      exact K155 _ _ _ _ h hp (lv_sub hl [0, 1] rfl)
    · have h := h.2 c1
      refine lv_aload_n hx hb dX1_takeAll_125 rfl (lv_at hl 0 rfl) ?_
      refine f_X1_27 X hp hj dX1_takeAll_126 ?_
      refine lv_iload_n hx hb dX1_takeAll_129 rfl (lv_at hl 2 rfl) ?_
      refine lv_aload_n hx hb dX1_takeAll_130 rfl (lv_at hl 1 rfl) ?_
      refine f_X1_27 X hp ho dX1_takeAll_131 ?_
      refine lv_iload_n hx hb dX1_takeAll_134 rfl (lv_at hl 2 rfl) ?_
      have hv2 := h.1
      have h := h.2
      refine al_i X hp (ar_6 ho) hv2 dX1_takeAll_135 ?_
      have hv3 := h.1
      have h := h.2
      refine as_i X hp (ar_6 hj) hv3 dX1_takeAll_136 (fun H locs hp => ?_)
      obtain ⟨I4, e5⟩ : ∃ y, y = su I (8 * j + 6) x2.toNatClampNeg (I (8 * o + 6) x2.toNatClampNeg) := ⟨_, rfl⟩
      have hp : PP E s H locs I4 := by rw [e5]; exact hp
      have h := h I4 e5
      refine lv_aload_n hx hb dX1_takeAll_137 rfl (lv_at hl 0 rfl) ?_
      refine f_X1_30 X hp hj dX1_takeAll_138 ?_
      refine lv_iload_n hx hb dX1_takeAll_141 rfl (lv_at hl 2 rfl) ?_
      refine lv_aload_n hx hb dX1_takeAll_142 rfl (lv_at hl 1 rfl) ?_
      refine f_X1_30 X hp ho dX1_takeAll_143 ?_
      refine lv_iload_n hx hb dX1_takeAll_146 rfl (lv_at hl 2 rfl) ?_
      have hv6 := h.1
      have h := h.2
      refine al_i X hp (ar_7 ho) hv6 dX1_takeAll_147 ?_
      have hv7 := h.1
      have h := h.2
      refine as_i X hp (ar_7 hj) hv7 dX1_takeAll_148 (fun H locs hp => ?_)
      obtain ⟨I8, e9⟩ : ∃ y, y = su I4 (8 * j + 7) x2.toNatClampNeg (I4 (8 * o + 7) x2.toNatClampNeg) := ⟨_, rfl⟩
      have hp : PP E s H locs I8 := by rw [e9]; exact hp
      have h := h I8 e9
      refine lv_iinc (v := (x2 + (nI 1))) (lv' := [(2, .int (x2 + (nI 1))), (0, .ref (E.2.1 (8 * j))), (1, .ref (E.2.1 (8 * o)))]) hx hb dX1_takeAll_149 hl (k := 2) rfl rfl (by decide) rfl (fun ls hl => ?_)
      refine lv_goto (tgt := 119) hx hb dX1_takeAll_152 (by decide) ?_
      exact ih _ _ _ _ _ h hp (lv_sub hl [1, 2, 0] rfl)
def wp_X1_takeAll (j : Nat) (o : Nat) (I : II) (Q : II → Prop) : Prop := (∀ I1 : II, I1 = su I (8 * j) 0 (I (8 * o) 0) → (∀ I3 : II, I3 = su I1 (8 * j) 1 (I1 (8 * o) 1) → (∀ I5 : II, I5 = su I3 (8 * j) 2 (I3 (8 * o) 2) → (∀ I7 : II, I7 = su I5 (8 * j) 3 (I5 (8 * o) 3) → (∀ I9 : II, I9 = su I7 (8 * j) 7 (I7 (8 * o) 7) → (∀ I11 : II, I11 = su I9 (8 * j) 8 (I9 (8 * o) 8) → (∀ I13 : II, I13 = su I11 (8 * j) 9 (I11 (8 * o) 9) → (∃ n118, wp_X1_takeAll_58 j o Q (fun I => (∃ n117, wp_X1_takeAll_119 j o Q (fun I => (wp_X1_takeCourse j o I (fun I115 => (Q I115)))) n117 (nI 0) I)) n118 (nI 0) I13))))))))
set_option maxHeartbeats 4000000 in
set_option maxRecDepth 100000 in
theorem w_X1_takeAll_0 {E : EE} {p : Program} {l : Launch} {e : Env} {s : State} {m : MethodId} {args : Array Value} {below : List Frame} {meth : Method} {c : Code} {Q : II → Prop} (X : CX E p s m args meth c cX1_takeAll 3 none RX1) {j : Nat} (hj : j < 37) {o : Nat} (ho : o < 37) : ∀ (I : II) (H : Heap) (locs : List Loc) (ls : Array Slot), wp_X1_takeAll j o I Q → PP E s H locs I → lv_has ls 3 [(0, .ref (E.2.1 (8 * j))), (1, .ref (E.2.1 (8 * o)))] → W p l e rmX1_takeAll s m args below meth c H locs 0 0 (MQ below (va_Qv Q (BU E) E.2.2.2.1) args s 0 0 E.2.2.2.1) (F0 m 0 ls []) := by
  obtain ⟨⟨hx, hb, hml, hown, hts⟩, hr, hlk, hK, hST, hN⟩ := id X
  intro I H locs ls h hp hl
  unfold wp_X1_takeAll at h
  refine lv_aload_n hx hb dX1_takeAll_0 rfl (lv_at hl 0 rfl) ?_
  refine lv_aload_n hx hb dX1_takeAll_1 rfl (lv_at hl 1 rfl) ?_
  refine f_X1_58 X hp ho dX1_takeAll_2 ?_
  refine g_X1_58 X hp hj dX1_takeAll_5 (fun H locs hp => ?_)
  obtain ⟨I1, e2⟩ : ∃ y, y = su I (8 * j) 0 (I (8 * o) 0) := ⟨_, rfl⟩
  have hp : PP E s H locs I1 := by rw [e2]; exact hp
  have h := h I1 e2
  refine lv_aload_n hx hb dX1_takeAll_8 rfl (lv_at hl 0 rfl) ?_
  refine lv_aload_n hx hb dX1_takeAll_9 rfl (lv_at hl 1 rfl) ?_
  refine f_X1_61 X hp ho dX1_takeAll_10 ?_
  refine g_X1_61 X hp hj dX1_takeAll_13 (fun H locs hp => ?_)
  obtain ⟨I3, e4⟩ : ∃ y, y = su I1 (8 * j) 1 (I1 (8 * o) 1) := ⟨_, rfl⟩
  have hp : PP E s H locs I3 := by rw [e4]; exact hp
  have h := h I3 e4
  refine lv_aload_n hx hb dX1_takeAll_16 rfl (lv_at hl 0 rfl) ?_
  refine lv_aload_n hx hb dX1_takeAll_17 rfl (lv_at hl 1 rfl) ?_
  refine f_X1_33 X hp ho dX1_takeAll_18 ?_
  refine g_X1_33 X hp hj dX1_takeAll_21 (fun H locs hp => ?_)
  obtain ⟨I5, e6⟩ : ∃ y, y = su I3 (8 * j) 2 (I3 (8 * o) 2) := ⟨_, rfl⟩
  have hp : PP E s H locs I5 := by rw [e6]; exact hp
  have h := h I5 e6
  refine lv_aload_n hx hb dX1_takeAll_24 rfl (lv_at hl 0 rfl) ?_
  refine lv_aload_n hx hb dX1_takeAll_25 rfl (lv_at hl 1 rfl) ?_
  refine f_X1_37 X hp ho dX1_takeAll_26 ?_
  refine g_X1_37 X hp hj dX1_takeAll_29 (fun H locs hp => ?_)
  obtain ⟨I7, e8⟩ : ∃ y, y = su I5 (8 * j) 3 (I5 (8 * o) 3) := ⟨_, rfl⟩
  have hp : PP E s H locs I7 := by rw [e8]; exact hp
  have h := h I7 e8
  refine lv_aload_n hx hb dX1_takeAll_32 rfl (lv_at hl 0 rfl) ?_
  refine lv_aload_n hx hb dX1_takeAll_33 rfl (lv_at hl 1 rfl) ?_
  refine f_X1_49 X hp ho dX1_takeAll_34 ?_
  refine g_X1_49 X hp hj dX1_takeAll_37 (fun H locs hp => ?_)
  obtain ⟨I9, e10⟩ : ∃ y, y = su I7 (8 * j) 7 (I7 (8 * o) 7) := ⟨_, rfl⟩
  have hp : PP E s H locs I9 := by rw [e10]; exact hp
  have h := h I9 e10
  refine lv_aload_n hx hb dX1_takeAll_40 rfl (lv_at hl 0 rfl) ?_
  refine lv_aload_n hx hb dX1_takeAll_41 rfl (lv_at hl 1 rfl) ?_
  refine f_X1_52 X hp ho dX1_takeAll_42 ?_
  refine g_X1_52 X hp hj dX1_takeAll_45 (fun H locs hp => ?_)
  obtain ⟨I11, e12⟩ : ∃ y, y = su I9 (8 * j) 8 (I9 (8 * o) 8) := ⟨_, rfl⟩
  have hp : PP E s H locs I11 := by rw [e12]; exact hp
  have h := h I11 e12
  refine lv_aload_n hx hb dX1_takeAll_48 rfl (lv_at hl 0 rfl) ?_
  refine lv_aload_n hx hb dX1_takeAll_49 rfl (lv_at hl 1 rfl) ?_
  refine f_X1_55 X hp ho dX1_takeAll_50 ?_
  refine g_X1_55 X hp hj dX1_takeAll_53 (fun H locs hp => ?_)
  obtain ⟨I13, e14⟩ : ∃ y, y = su I11 (8 * j) 9 (I11 (8 * o) 9) := ⟨_, rfl⟩
  have hp : PP E s H locs I13 := by rw [e14]; exact hp
  have h := h I13 e14
  refine lv_iconst (v := (nI 0)) hx hb dX1_takeAll_56 (by decide) ?_
  refine lv_istore_n (lv' := [(2, .int (nI 0)), (0, .ref (E.2.1 (8 * j))), (1, .ref (E.2.1 (8 * o)))]) hx hb dX1_takeAll_57 rfl hl (by decide) rfl (fun ls hl => ?_)
  obtain ⟨n118, h⟩ := h
  refine w_X1_takeAll_58 X hj ho ?_ n118 _ _ _ _ _ h hp (lv_sub hl [1, 2, 0] rfl)
  · intro I H locs ls h hp hl
    refine lv_iconst (v := (nI 0)) hx hb dX1_takeAll_117 (by decide) ?_
    refine lv_istore_n (lv' := [(2, .int (nI 0)), (0, .ref (E.2.1 (8 * j))), (1, .ref (E.2.1 (8 * o)))]) hx hb dX1_takeAll_118 rfl hl (by decide) rfl (fun ls hl => ?_)
    obtain ⟨n117, h⟩ := h
    refine w_X1_takeAll_119 X hj ho ?_ n117 _ _ _ _ _ h hp (lv_sub hl [1, 2, 0] rfl)
    · intro I H locs ls h hp hl
      refine lv_aload_n hx hb dX1_takeAll_155 rfl (lv_at hl 0 rfl) ?_
      refine lv_aload_n hx hb dX1_takeAll_156 rfl (lv_at hl 1 rfl) ?_
      refine kv (kV (As := [.ref (E.2.1 (8 * o))]) (rest := []) X hp (C_X1_takeCourse hj ho h) tw_ml_X1_64 vf_X1_takeCourse ⟨rfl, rfl, Nat.le_of_ble_eq_true rfl, Nat.le_of_ble_eq_true rfl⟩ (pr_rcvb X hp hj) rfl hl.1 rfl (Nat.le_of_ble_eq_true rfl) dX1_takeAll_157) hp (fun I115 H locs h hp => ?_)
      exact rt_v X hp h dX1_takeAll_160
set_option maxRecDepth 100000 in
theorem C_X1_takeAll {E : EE} {l : Launch} {j : Nat} (hj : j < 37) {o : Nat} (ho : o < 37) {I : II} {Q : II → Prop} (h : wp_X1_takeAll j o I Q) : Met l yX1_takeAll (Cond.code yX1_takeAll cX1_takeAll 3 none :: lwT) rmX1_takeAll (va_Pc [.ref (E.2.1 (8 * j)), .ref (E.2.1 (8 * o))] (PU E I)) (va_Qv Q (BU E) E.2.2.2.1) 0 0 E.2.2.2.1 :=
  ofWalk [.ref (E.2.1 (8 * j)), .ref (E.2.1 (8 * o))] (by decide) tw_c_X1_takeAll (Nat.le_of_ble_eq_true rfl) (fun p e s m below meth c ls X hp hl => w_X1_takeAll_0 X hj ho _ _ _ _ h hp hl)
abbrev rmX1_isThere : Room := { frames := 0, cells := 0, slots := 0, locals := 0 }
theorem vf_X1_isThere : VF yX1_isThere RX1 cX1_isThere 1 (some .boolean) 0 := ⟨tw_in_X1, tw_im_X1_isThere, tw_se_X1_isThere, tw_c_X1_isThere, by decide, by decide, by decide +kernel⟩
def wp_X1_isThere (j : Nat) (I : II) (Q : Int32 → II → Prop) : Prop := (((I (8 * j) 2) ≤ 0 → (Q (nI 0) I)) ∧ (¬ (I (8 * j) 2) ≤ 0 → (Q (nI 1) I)))
set_option maxHeartbeats 4000000 in
set_option maxRecDepth 100000 in
theorem w_X1_isThere_0 {E : EE} {p : Program} {l : Launch} {e : Env} {s : State} {m : MethodId} {args : Array Value} {below : List Frame} {meth : Method} {c : Code} {Q : Int32 → II → Prop} (X : CX E p s m args meth c cX1_isThere 1 (some .boolean) RX1) {j : Nat} (hj : j < 37) : ∀ (I : II) (H : Heap) (locs : List Loc) (ls : Array Slot), wp_X1_isThere j I Q → PP E s H locs I → lv_has ls 1 [(0, .ref (E.2.1 (8 * j)))] → W p l e rmX1_isThere s m args below meth c H locs 0 0 (MQ below (va_Qi Q (BU E) E.2.2.2.1) args s 0 0 E.2.2.2.1) (F0 m 0 ls []) := by
  obtain ⟨⟨hx, hb, hml, hown, hts⟩, hr, hlk, hK, hST, hN⟩ := id X
  intro I H locs ls h hp hl
  unfold wp_X1_isThere at h
  refine lv_aload_n hx hb dX1_isThere_0 rfl (lv_at hl 0 rfl) ?_
  refine f_X1_33 X hp hj dX1_isThere_1 ?_
  refine lv_if_le (tgt := 11) hx hb dX1_isThere_4 (by decide) (fun c1 => ?_) (fun c1 => ?_)
  · have h := h.1 c1
    refine lv_iconst (v := (nI 0)) hx hb dX1_isThere_11 (by decide) ?_
    exact rt_z X hp ⟨Or.inl rfl, h⟩ dX1_isThere_12
  · have h := h.2 c1
    refine lv_iconst (v := (nI 1)) hx hb dX1_isThere_7 (by decide) ?_
    refine lv_goto (tgt := 12) hx hb dX1_isThere_8 (by decide) ?_
    exact rt_z X hp ⟨Or.inr rfl, h⟩ dX1_isThere_12
set_option maxRecDepth 100000 in
theorem C_X1_isThere {E : EE} {l : Launch} {j : Nat} (hj : j < 37) {I : II} {Q : Int32 → II → Prop} (h : wp_X1_isThere j I Q) : Met l yX1_isThere (Cond.code yX1_isThere cX1_isThere 1 (some .boolean) :: lwT) rmX1_isThere (va_Pc [.ref (E.2.1 (8 * j))] (PU E I)) (va_Qi Q (BU E) E.2.2.2.1) 0 0 E.2.2.2.1 :=
  ofWalk [.ref (E.2.1 (8 * j))] (by decide) tw_c_X1_isThere (Nat.le_of_ble_eq_true rfl) (fun p e s m below meth c ls X hp hl => w_X1_isThere_0 X hj _ _ _ _ h hp hl)
abbrev rmX1_isOpen : Room := { frames := 0, cells := 0, slots := 0, locals := 0 }
theorem vf_X1_isOpen : VF yX1_isOpen RX1 cX1_isOpen 2 (some .boolean) 1 := ⟨tw_in_X1, tw_im_X1_isOpen, tw_se_X1_isOpen, tw_c_X1_isOpen, by decide, by decide, by decide +kernel⟩
def wp_X1_isOpen (j : Nat) (x1 : Int32) (I : II) (Q : Int32 → II → Prop) : Prop := ((x1 < 0 → (Q (nI 0) I)) ∧ (¬ x1 < 0 → (((nI 4) ≤ x1 → (Q (nI 0) I)) ∧ (¬ (nI 4) ≤ x1 → ((¬ (((I (8 * j) 3) >>> (x1 &&& 31)) &&& (nI 1)) = (nI 1) → (Q (nI 0) I)) ∧ ((((I (8 * j) 3) >>> (x1 &&& 31)) &&& (nI 1)) = (nI 1) → (Q (nI 1) I)))))))
set_option maxHeartbeats 4000000 in
set_option maxRecDepth 100000 in
theorem w_X1_isOpen_0 {E : EE} {p : Program} {l : Launch} {e : Env} {s : State} {m : MethodId} {args : Array Value} {below : List Frame} {meth : Method} {c : Code} {Q : Int32 → II → Prop} (X : CX E p s m args meth c cX1_isOpen 2 (some .boolean) RX1) {j : Nat} (hj : j < 37) : ∀ (x1 : Int32) (I : II) (H : Heap) (locs : List Loc) (ls : Array Slot), wp_X1_isOpen j x1 I Q → PP E s H locs I → lv_has ls 2 [(0, .ref (E.2.1 (8 * j))), (1, .int x1)] → W p l e rmX1_isOpen s m args below meth c H locs 0 0 (MQ below (va_Qi Q (BU E) E.2.2.2.1) args s 0 0 E.2.2.2.1) (F0 m 0 ls []) := by
  obtain ⟨⟨hx, hb, hml, hown, hts⟩, hr, hlk, hK, hST, hN⟩ := id X
  intro x1 I H locs ls h hp hl
  unfold wp_X1_isOpen at h
  refine lv_iload_n hx hb dX1_isOpen_0 rfl (lv_at hl 1 rfl) ?_
  refine lv_if_lt (tgt := 25) hx hb dX1_isOpen_1 (by decide) (fun c1 => ?_) (fun c1 => ?_)
  · have h := h.1 c1
    refine lv_iconst (v := (nI 0)) hx hb dX1_isOpen_25 (by decide) ?_
    exact rt_z X hp ⟨Or.inl rfl, h⟩ dX1_isOpen_26
  · have h := h.2 c1
    refine lv_iload_n hx hb dX1_isOpen_4 rfl (lv_at hl 1 rfl) ?_
    refine lv_iconst (v := (nI 4)) hx hb dX1_isOpen_5 (by decide) ?_
    refine lv_icmp_ge (tgt := 25) hx hb dX1_isOpen_6 (by decide) (fun c2 => ?_) (fun c2 => ?_)
    · have h := h.1 c2
      refine lv_iconst (v := (nI 0)) hx hb dX1_isOpen_25 (by decide) ?_
      exact rt_z X hp ⟨Or.inl rfl, h⟩ dX1_isOpen_26
    · have h := h.2 c2
      refine lv_aload_n hx hb dX1_isOpen_9 rfl (lv_at hl 0 rfl) ?_
      refine f_X1_37 X hp hj dX1_isOpen_10 ?_
      refine lv_iload_n hx hb dX1_isOpen_13 rfl (lv_at hl 1 rfl) ?_
      refine lv_ishr hx hb dX1_isOpen_14 ?_
      refine lv_iconst (v := (nI 1)) hx hb dX1_isOpen_15 (by decide) ?_
      refine lv_iand hx hb dX1_isOpen_16 ?_
      refine lv_iconst (v := (nI 1)) hx hb dX1_isOpen_17 (by decide) ?_
      refine lv_icmp_ne (tgt := 25) hx hb dX1_isOpen_18 (by decide) (fun c3 => ?_) (fun c3 => ?_)
      · have h := h.1 c3
        refine lv_iconst (v := (nI 0)) hx hb dX1_isOpen_25 (by decide) ?_
        exact rt_z X hp ⟨Or.inl rfl, h⟩ dX1_isOpen_26
      · have h := h.2 c3
        refine lv_iconst (v := (nI 1)) hx hb dX1_isOpen_21 (by decide) ?_
        refine lv_goto (tgt := 26) hx hb dX1_isOpen_22 (by decide) ?_
        exact rt_z X hp ⟨Or.inr rfl, h⟩ dX1_isOpen_26
set_option maxRecDepth 100000 in
theorem C_X1_isOpen {E : EE} {l : Launch} {j : Nat} (hj : j < 37) {x1 : Int32} {I : II} {Q : Int32 → II → Prop} (h : wp_X1_isOpen j x1 I Q) : Met l yX1_isOpen (Cond.code yX1_isOpen cX1_isOpen 2 (some .boolean) :: lwT) rmX1_isOpen (va_Pc [.ref (E.2.1 (8 * j)), .int x1] (PU E I)) (va_Qi Q (BU E) E.2.2.2.1) 0 0 E.2.2.2.1 :=
  ofWalk [.ref (E.2.1 (8 * j)), .int x1] (by decide) tw_c_X1_isOpen (Nat.le_of_ble_eq_true rfl) (fun p e s m below meth c ls X hp hl => w_X1_isOpen_0 X hj _ _ _ _ _ h hp hl)
abbrev rmX1_addTeller : Room := { frames := 0, cells := 0, slots := 0, locals := 0 }
theorem vf_X1_addTeller : VF yX1_addTeller RX1 cX1_addTeller 4 none 3 := ⟨tw_in_X1, tw_im_X1_addTeller, tw_se_X1_addTeller, tw_c_X1_addTeller, by decide, by decide, by decide +kernel⟩
def wp_X1_addTeller (j : Nat) (x1 : Int32) (x2 : Int32) (x3 : Int32) (I : II) (Q : II → Prop) : Prop := (((I (8 * j) 2) < (nI 4) → (vp_in (I (8 * j) 2) 4 ∧ ∀ I3 : II, I3 = su I (8 * j + 1) (I (8 * j) 2).toNatClampNeg x1 → (vp_in (I3 (8 * j) 2) 4 ∧ ∀ I6 : II, I6 = su I3 (8 * j + 2) (I3 (8 * j) 2).toNatClampNeg x2 → (vp_in (I6 (8 * j) 2) 4 ∧ ∀ I9 : II, I9 = su I6 (8 * j + 3) (I6 (8 * j) 2).toNatClampNeg x3 → (vp_in (I9 (8 * j) 2) 4 ∧ ∀ I12 : II, I12 = su I9 (8 * j + 4) (I9 (8 * j) 2).toNatClampNeg x2 → (vp_in (I12 (8 * j) 2) 4 ∧ ∀ I15 : II, I15 = su I12 (8 * j + 5) (I12 (8 * j) 2).toNatClampNeg (nI 0) → (∀ I17 : II, I17 = su I15 (8 * j) 3 ((I15 (8 * j) 3) ||| ((nI 1) <<< ((I15 (8 * j) 2) &&& 31))) → (∀ I19 : II, I19 = su I17 (8 * j) 2 ((I17 (8 * j) 2) + (nI 1)) → (Q I19))))))))) ∧ (¬ (I (8 * j) 2) < (nI 4) → (Q I)))
set_option maxHeartbeats 4000000 in
set_option maxRecDepth 100000 in
theorem w_X1_addTeller_0 {E : EE} {p : Program} {l : Launch} {e : Env} {s : State} {m : MethodId} {args : Array Value} {below : List Frame} {meth : Method} {c : Code} {Q : II → Prop} (X : CX E p s m args meth c cX1_addTeller 4 none RX1) {j : Nat} (hj : j < 37) : ∀ (x1 : Int32) (x2 : Int32) (x3 : Int32) (I : II) (H : Heap) (locs : List Loc) (ls : Array Slot), wp_X1_addTeller j x1 x2 x3 I Q → PP E s H locs I → lv_has ls 4 [(0, .ref (E.2.1 (8 * j))), (1, .int x1), (2, .int x2), (3, .int x3)] → W p l e rmX1_addTeller s m args below meth c H locs 0 0 (MQ below (va_Qv Q (BU E) E.2.2.2.1) args s 0 0 E.2.2.2.1) (F0 m 0 ls []) := by
  obtain ⟨⟨hx, hb, hml, hown, hts⟩, hr, hlk, hK, hST, hN⟩ := id X
  intro x1 x2 x3 I H locs ls h hp hl
  unfold wp_X1_addTeller at h
  refine lv_aload_n hx hb dX1_addTeller_0 rfl (lv_at hl 0 rfl) ?_
  refine f_X1_33 X hp hj dX1_addTeller_1 ?_
  refine lv_iconst (v := (nI 4)) hx hb dX1_addTeller_4 (by decide) ?_
  refine lv_icmp_lt (tgt := 9) hx hb dX1_addTeller_5 (by decide) (fun c1 => ?_) (fun c1 => ?_)
  · have h := h.1 c1
    refine lv_aload_n hx hb dX1_addTeller_9 rfl (lv_at hl 0 rfl) ?_
    refine f_X1_9 X hp hj dX1_addTeller_10 ?_
    refine lv_aload_n hx hb dX1_addTeller_13 rfl (lv_at hl 0 rfl) ?_
    refine f_X1_33 X hp hj dX1_addTeller_14 ?_
    refine lv_iload_n hx hb dX1_addTeller_17 rfl (lv_at hl 1 rfl) ?_
    have hv2 := h.1
    have h := h.2
    refine as_i X hp (ar_1 hj) hv2 dX1_addTeller_18 (fun H locs hp => ?_)
    obtain ⟨I3, e4⟩ : ∃ y, y = su I (8 * j + 1) (I (8 * j) 2).toNatClampNeg x1 := ⟨_, rfl⟩
    have hp : PP E s H locs I3 := by rw [e4]; exact hp
    have h := h I3 e4
    refine lv_aload_n hx hb dX1_addTeller_19 rfl (lv_at hl 0 rfl) ?_
    refine f_X1_15 X hp hj dX1_addTeller_20 ?_
    refine lv_aload_n hx hb dX1_addTeller_23 rfl (lv_at hl 0 rfl) ?_
    refine f_X1_33 X hp hj dX1_addTeller_24 ?_
    refine lv_iload_n hx hb dX1_addTeller_27 rfl (lv_at hl 2 rfl) ?_
    have hv5 := h.1
    have h := h.2
    refine as_i X hp (ar_2 hj) hv5 dX1_addTeller_28 (fun H locs hp => ?_)
    obtain ⟨I6, e7⟩ : ∃ y, y = su I3 (8 * j + 2) (I3 (8 * j) 2).toNatClampNeg x2 := ⟨_, rfl⟩
    have hp : PP E s H locs I6 := by rw [e7]; exact hp
    have h := h I6 e7
    refine lv_aload_n hx hb dX1_addTeller_29 rfl (lv_at hl 0 rfl) ?_
    refine f_X1_18 X hp hj dX1_addTeller_30 ?_
    refine lv_aload_n hx hb dX1_addTeller_33 rfl (lv_at hl 0 rfl) ?_
    refine f_X1_33 X hp hj dX1_addTeller_34 ?_
    refine lv_iload_n hx hb dX1_addTeller_37 rfl (lv_at hl 3 rfl) ?_
    have hv8 := h.1
    have h := h.2
    refine as_i X hp (ar_3 hj) hv8 dX1_addTeller_38 (fun H locs hp => ?_)
    obtain ⟨I9, e10⟩ : ∃ y, y = su I6 (8 * j + 3) (I6 (8 * j) 2).toNatClampNeg x3 := ⟨_, rfl⟩
    have hp : PP E s H locs I9 := by rw [e10]; exact hp
    have h := h I9 e10
    refine lv_aload_n hx hb dX1_addTeller_39 rfl (lv_at hl 0 rfl) ?_
    refine f_X1_21 X hp hj dX1_addTeller_40 ?_
    refine lv_aload_n hx hb dX1_addTeller_43 rfl (lv_at hl 0 rfl) ?_
    refine f_X1_33 X hp hj dX1_addTeller_44 ?_
    refine lv_iload_n hx hb dX1_addTeller_47 rfl (lv_at hl 2 rfl) ?_
    have hv11 := h.1
    have h := h.2
    refine as_i X hp (ar_4 hj) hv11 dX1_addTeller_48 (fun H locs hp => ?_)
    obtain ⟨I12, e13⟩ : ∃ y, y = su I9 (8 * j + 4) (I9 (8 * j) 2).toNatClampNeg x2 := ⟨_, rfl⟩
    have hp : PP E s H locs I12 := by rw [e13]; exact hp
    have h := h I12 e13
    refine lv_aload_n hx hb dX1_addTeller_49 rfl (lv_at hl 0 rfl) ?_
    refine f_X1_24 X hp hj dX1_addTeller_50 ?_
    refine lv_aload_n hx hb dX1_addTeller_53 rfl (lv_at hl 0 rfl) ?_
    refine f_X1_33 X hp hj dX1_addTeller_54 ?_
    refine lv_iconst (v := (nI 0)) hx hb dX1_addTeller_57 (by decide) ?_
    have hv14 := h.1
    have h := h.2
    refine as_i X hp (ar_5 hj) hv14 dX1_addTeller_58 (fun H locs hp => ?_)
    obtain ⟨I15, e16⟩ : ∃ y, y = su I12 (8 * j + 5) (I12 (8 * j) 2).toNatClampNeg (nI 0) := ⟨_, rfl⟩
    have hp : PP E s H locs I15 := by rw [e16]; exact hp
    have h := h I15 e16
    refine lv_aload_n hx hb dX1_addTeller_59 rfl (lv_at hl 0 rfl) ?_
    refine lv_dup hx hb dX1_addTeller_60 rfl ?_
    refine f_X1_37 X hp hj dX1_addTeller_61 ?_
    refine lv_iconst (v := (nI 1)) hx hb dX1_addTeller_64 (by decide) ?_
    refine lv_aload_n hx hb dX1_addTeller_65 rfl (lv_at hl 0 rfl) ?_
    refine f_X1_33 X hp hj dX1_addTeller_66 ?_
    refine lv_ishl hx hb dX1_addTeller_69 ?_
    refine lv_ior hx hb dX1_addTeller_70 ?_
    refine g_X1_37 X hp hj dX1_addTeller_71 (fun H locs hp => ?_)
    obtain ⟨I17, e18⟩ : ∃ y, y = su I15 (8 * j) 3 ((I15 (8 * j) 3) ||| ((nI 1) <<< ((I15 (8 * j) 2) &&& 31))) := ⟨_, rfl⟩
    have hp : PP E s H locs I17 := by rw [e18]; exact hp
    have h := h I17 e18
    refine lv_aload_n hx hb dX1_addTeller_74 rfl (lv_at hl 0 rfl) ?_
    refine lv_dup hx hb dX1_addTeller_75 rfl ?_
    refine f_X1_33 X hp hj dX1_addTeller_76 ?_
    refine lv_iconst (v := (nI 1)) hx hb dX1_addTeller_79 (by decide) ?_
    refine lv_iadd hx hb dX1_addTeller_80 ?_
    refine g_X1_33 X hp hj dX1_addTeller_81 (fun H locs hp => ?_)
    obtain ⟨I19, e20⟩ : ∃ y, y = su I17 (8 * j) 2 ((I17 (8 * j) 2) + (nI 1)) := ⟨_, rfl⟩
    have hp : PP E s H locs I19 := by rw [e20]; exact hp
    have h := h I19 e20
    exact rt_v X hp h dX1_addTeller_84
  · have h := h.2 c1
    exact rt_v X hp h dX1_addTeller_8
set_option maxRecDepth 100000 in
theorem C_X1_addTeller {E : EE} {l : Launch} {j : Nat} (hj : j < 37) {x1 : Int32} {x2 : Int32} {x3 : Int32} {I : II} {Q : II → Prop} (h : wp_X1_addTeller j x1 x2 x3 I Q) : Met l yX1_addTeller (Cond.code yX1_addTeller cX1_addTeller 4 none :: lwT) rmX1_addTeller (va_Pc [.ref (E.2.1 (8 * j)), .int x1, .int x2, .int x3] (PU E I)) (va_Qv Q (BU E) E.2.2.2.1) 0 0 E.2.2.2.1 :=
  ofWalk [.ref (E.2.1 (8 * j)), .int x1, .int x2, .int x3] (by decide) tw_c_X1_addTeller (Nat.le_of_ble_eq_true rfl) (fun p e s m below meth c ls X hp hl => w_X1_addTeller_0 X hj _ _ _ _ _ _ _ h hp hl)
abbrev rmX1_knowsPaper : Room := { frames := 0, cells := 0, slots := 0, locals := 0 }
theorem vf_X1_knowsPaper : VF yX1_knowsPaper RX1 cX1_knowsPaper 2 (some .boolean) 1 := ⟨tw_in_X1, tw_im_X1_knowsPaper, tw_se_X1_knowsPaper, tw_c_X1_knowsPaper, by decide, by decide, by decide +kernel⟩
def wp_X1_knowsPaper (j : Nat) (x1 : Int32) (I : II) (Q : Int32 → II → Prop) : Prop := ((x1 < 0 → (Q (nI 0) I)) ∧ (¬ x1 < 0 → (((nI 7) ≤ x1 → (Q (nI 0) I)) ∧ (¬ (nI 7) ≤ x1 → ((¬ (((I (8 * j) 9) >>> (x1 &&& 31)) &&& (nI 1)) = (nI 1) → (Q (nI 0) I)) ∧ ((((I (8 * j) 9) >>> (x1 &&& 31)) &&& (nI 1)) = (nI 1) → (Q (nI 1) I)))))))
set_option maxHeartbeats 4000000 in
set_option maxRecDepth 100000 in
theorem w_X1_knowsPaper_0 {E : EE} {p : Program} {l : Launch} {e : Env} {s : State} {m : MethodId} {args : Array Value} {below : List Frame} {meth : Method} {c : Code} {Q : Int32 → II → Prop} (X : CX E p s m args meth c cX1_knowsPaper 2 (some .boolean) RX1) {j : Nat} (hj : j < 37) : ∀ (x1 : Int32) (I : II) (H : Heap) (locs : List Loc) (ls : Array Slot), wp_X1_knowsPaper j x1 I Q → PP E s H locs I → lv_has ls 2 [(0, .ref (E.2.1 (8 * j))), (1, .int x1)] → W p l e rmX1_knowsPaper s m args below meth c H locs 0 0 (MQ below (va_Qi Q (BU E) E.2.2.2.1) args s 0 0 E.2.2.2.1) (F0 m 0 ls []) := by
  obtain ⟨⟨hx, hb, hml, hown, hts⟩, hr, hlk, hK, hST, hN⟩ := id X
  intro x1 I H locs ls h hp hl
  unfold wp_X1_knowsPaper at h
  refine lv_iload_n hx hb dX1_knowsPaper_0 rfl (lv_at hl 1 rfl) ?_
  refine lv_if_lt (tgt := 26) hx hb dX1_knowsPaper_1 (by decide) (fun c1 => ?_) (fun c1 => ?_)
  · have h := h.1 c1
    refine lv_iconst (v := (nI 0)) hx hb dX1_knowsPaper_26 (by decide) ?_
    exact rt_z X hp ⟨Or.inl rfl, h⟩ dX1_knowsPaper_27
  · have h := h.2 c1
    refine lv_iload_n hx hb dX1_knowsPaper_4 rfl (lv_at hl 1 rfl) ?_
    refine lv_bipush (v := (nI 7)) hx hb dX1_knowsPaper_5 (by decide) ?_
    refine lv_icmp_ge (tgt := 26) hx hb dX1_knowsPaper_7 (by decide) (fun c2 => ?_) (fun c2 => ?_)
    · have h := h.1 c2
      refine lv_iconst (v := (nI 0)) hx hb dX1_knowsPaper_26 (by decide) ?_
      exact rt_z X hp ⟨Or.inl rfl, h⟩ dX1_knowsPaper_27
    · have h := h.2 c2
      refine lv_aload_n hx hb dX1_knowsPaper_10 rfl (lv_at hl 0 rfl) ?_
      refine f_X1_55 X hp hj dX1_knowsPaper_11 ?_
      refine lv_iload_n hx hb dX1_knowsPaper_14 rfl (lv_at hl 1 rfl) ?_
      refine lv_ishr hx hb dX1_knowsPaper_15 ?_
      refine lv_iconst (v := (nI 1)) hx hb dX1_knowsPaper_16 (by decide) ?_
      refine lv_iand hx hb dX1_knowsPaper_17 ?_
      refine lv_iconst (v := (nI 1)) hx hb dX1_knowsPaper_18 (by decide) ?_
      refine lv_icmp_ne (tgt := 26) hx hb dX1_knowsPaper_19 (by decide) (fun c3 => ?_) (fun c3 => ?_)
      · have h := h.1 c3
        refine lv_iconst (v := (nI 0)) hx hb dX1_knowsPaper_26 (by decide) ?_
        exact rt_z X hp ⟨Or.inl rfl, h⟩ dX1_knowsPaper_27
      · have h := h.2 c3
        refine lv_iconst (v := (nI 1)) hx hb dX1_knowsPaper_22 (by decide) ?_
        refine lv_goto (tgt := 27) hx hb dX1_knowsPaper_23 (by decide) ?_
        exact rt_z X hp ⟨Or.inr rfl, h⟩ dX1_knowsPaper_27
set_option maxRecDepth 100000 in
theorem C_X1_knowsPaper {E : EE} {l : Launch} {j : Nat} (hj : j < 37) {x1 : Int32} {I : II} {Q : Int32 → II → Prop} (h : wp_X1_knowsPaper j x1 I Q) : Met l yX1_knowsPaper (Cond.code yX1_knowsPaper cX1_knowsPaper 2 (some .boolean) :: lwT) rmX1_knowsPaper (va_Pc [.ref (E.2.1 (8 * j)), .int x1] (PU E I)) (va_Qi Q (BU E) E.2.2.2.1) 0 0 E.2.2.2.1 :=
  ofWalk [.ref (E.2.1 (8 * j)), .int x1] (by decide) tw_c_X1_knowsPaper (Nat.le_of_ble_eq_true rfl) (fun p e s m below meth c ls X hp hl => w_X1_knowsPaper_0 X hj _ _ _ _ _ h hp hl)
abbrev rmX1_sumOf : Room := { frames := 0, cells := 0, slots := 0, locals := 0 }
theorem vf_X1_sumOf : VF yX1_sumOf RX1 cX1_sumOf 2 (some .int) 1 := ⟨tw_in_X1, tw_im_X1_sumOf, tw_se_X1_sumOf, tw_c_X1_sumOf, by decide, by decide, by decide +kernel⟩
def wp_X1_sumOf (j : Nat) (x1 : Int32) (I : II) (Q : Int32 → II → Prop) : Prop := ((x1 < 0 → (Q (nI 0) I)) ∧ (¬ x1 < 0 → (((nI 7) ≤ x1 → (Q (nI 0) I)) ∧ (¬ (nI 7) ≤ x1 → (vp_in x1 7 ∧ (Q (I (8 * j + 6) x1.toNatClampNeg) I))))))
set_option maxHeartbeats 4000000 in
set_option maxRecDepth 100000 in
theorem w_X1_sumOf_0 {E : EE} {p : Program} {l : Launch} {e : Env} {s : State} {m : MethodId} {args : Array Value} {below : List Frame} {meth : Method} {c : Code} {Q : Int32 → II → Prop} (X : CX E p s m args meth c cX1_sumOf 2 (some .int) RX1) {j : Nat} (hj : j < 37) : ∀ (x1 : Int32) (I : II) (H : Heap) (locs : List Loc) (ls : Array Slot), wp_X1_sumOf j x1 I Q → PP E s H locs I → lv_has ls 2 [(0, .ref (E.2.1 (8 * j))), (1, .int x1)] → W p l e rmX1_sumOf s m args below meth c H locs 0 0 (MQ below (va_Qi Q (BU E) E.2.2.2.1) args s 0 0 E.2.2.2.1) (F0 m 0 ls []) := by
  obtain ⟨⟨hx, hb, hml, hown, hts⟩, hr, hlk, hK, hST, hN⟩ := id X
  intro x1 I H locs ls h hp hl
  unfold wp_X1_sumOf at h
  refine lv_iload_n hx hb dX1_sumOf_0 rfl (lv_at hl 1 rfl) ?_
  refine lv_if_lt (tgt := 19) hx hb dX1_sumOf_1 (by decide) (fun c1 => ?_) (fun c1 => ?_)
  · have h := h.1 c1
    refine lv_iconst (v := (nI 0)) hx hb dX1_sumOf_19 (by decide) ?_
    exact rt_i X hp h dX1_sumOf_20
  · have h := h.2 c1
    refine lv_iload_n hx hb dX1_sumOf_4 rfl (lv_at hl 1 rfl) ?_
    refine lv_bipush (v := (nI 7)) hx hb dX1_sumOf_5 (by decide) ?_
    refine lv_icmp_ge (tgt := 19) hx hb dX1_sumOf_7 (by decide) (fun c2 => ?_) (fun c2 => ?_)
    · have h := h.1 c2
      refine lv_iconst (v := (nI 0)) hx hb dX1_sumOf_19 (by decide) ?_
      exact rt_i X hp h dX1_sumOf_20
    · have h := h.2 c2
      refine lv_aload_n hx hb dX1_sumOf_10 rfl (lv_at hl 0 rfl) ?_
      refine f_X1_27 X hp hj dX1_sumOf_11 ?_
      refine lv_iload_n hx hb dX1_sumOf_14 rfl (lv_at hl 1 rfl) ?_
      have hv3 := h.1
      have h := h.2
      refine al_i X hp (ar_6 hj) hv3 dX1_sumOf_15 ?_
      refine lv_goto (tgt := 20) hx hb dX1_sumOf_16 (by decide) ?_
      exact rt_i X hp h dX1_sumOf_20
set_option maxRecDepth 100000 in
theorem C_X1_sumOf {E : EE} {l : Launch} {j : Nat} (hj : j < 37) {x1 : Int32} {I : II} {Q : Int32 → II → Prop} (h : wp_X1_sumOf j x1 I Q) : Met l yX1_sumOf (Cond.code yX1_sumOf cX1_sumOf 2 (some .int) :: lwT) rmX1_sumOf (va_Pc [.ref (E.2.1 (8 * j)), .int x1] (PU E I)) (va_Qi Q (BU E) E.2.2.2.1) 0 0 E.2.2.2.1 :=
  ofWalk [.ref (E.2.1 (8 * j)), .int x1] (by decide) tw_c_X1_sumOf (Nat.le_of_ble_eq_true rfl) (fun p e s m below meth c ls X hp hl => w_X1_sumOf_0 X hj _ _ _ _ _ h hp hl)
abbrev rmX1_isDrawing : Room := { frames := 0, cells := 0, slots := 0, locals := 0 }
theorem vf_X1_isDrawing : VF yX1_isDrawing RX1 cX1_isDrawing 2 (some .boolean) 1 := ⟨tw_in_X1, tw_im_X1_isDrawing, tw_se_X1_isDrawing, tw_c_X1_isDrawing, by decide, by decide, by decide +kernel⟩
def wp_X1_isDrawing (j : Nat) (x1 : Int32) (I : II) (Q : Int32 → II → Prop) : Prop := ((x1 < 0 → (Q (nI 0) I)) ∧ (¬ x1 < 0 → (((nI 7) ≤ x1 → (Q (nI 0) I)) ∧ (¬ (nI 7) ≤ x1 → ((¬ (((I (8 * j) 8) >>> (x1 &&& 31)) &&& (nI 1)) = (nI 1) → (Q (nI 0) I)) ∧ ((((I (8 * j) 8) >>> (x1 &&& 31)) &&& (nI 1)) = (nI 1) → (Q (nI 1) I)))))))
set_option maxHeartbeats 4000000 in
set_option maxRecDepth 100000 in
theorem w_X1_isDrawing_0 {E : EE} {p : Program} {l : Launch} {e : Env} {s : State} {m : MethodId} {args : Array Value} {below : List Frame} {meth : Method} {c : Code} {Q : Int32 → II → Prop} (X : CX E p s m args meth c cX1_isDrawing 2 (some .boolean) RX1) {j : Nat} (hj : j < 37) : ∀ (x1 : Int32) (I : II) (H : Heap) (locs : List Loc) (ls : Array Slot), wp_X1_isDrawing j x1 I Q → PP E s H locs I → lv_has ls 2 [(0, .ref (E.2.1 (8 * j))), (1, .int x1)] → W p l e rmX1_isDrawing s m args below meth c H locs 0 0 (MQ below (va_Qi Q (BU E) E.2.2.2.1) args s 0 0 E.2.2.2.1) (F0 m 0 ls []) := by
  obtain ⟨⟨hx, hb, hml, hown, hts⟩, hr, hlk, hK, hST, hN⟩ := id X
  intro x1 I H locs ls h hp hl
  unfold wp_X1_isDrawing at h
  refine lv_iload_n hx hb dX1_isDrawing_0 rfl (lv_at hl 1 rfl) ?_
  refine lv_if_lt (tgt := 26) hx hb dX1_isDrawing_1 (by decide) (fun c1 => ?_) (fun c1 => ?_)
  · have h := h.1 c1
    refine lv_iconst (v := (nI 0)) hx hb dX1_isDrawing_26 (by decide) ?_
    exact rt_z X hp ⟨Or.inl rfl, h⟩ dX1_isDrawing_27
  · have h := h.2 c1
    refine lv_iload_n hx hb dX1_isDrawing_4 rfl (lv_at hl 1 rfl) ?_
    refine lv_bipush (v := (nI 7)) hx hb dX1_isDrawing_5 (by decide) ?_
    refine lv_icmp_ge (tgt := 26) hx hb dX1_isDrawing_7 (by decide) (fun c2 => ?_) (fun c2 => ?_)
    · have h := h.1 c2
      refine lv_iconst (v := (nI 0)) hx hb dX1_isDrawing_26 (by decide) ?_
      exact rt_z X hp ⟨Or.inl rfl, h⟩ dX1_isDrawing_27
    · have h := h.2 c2
      refine lv_aload_n hx hb dX1_isDrawing_10 rfl (lv_at hl 0 rfl) ?_
      refine f_X1_52 X hp hj dX1_isDrawing_11 ?_
      refine lv_iload_n hx hb dX1_isDrawing_14 rfl (lv_at hl 1 rfl) ?_
      refine lv_ishr hx hb dX1_isDrawing_15 ?_
      refine lv_iconst (v := (nI 1)) hx hb dX1_isDrawing_16 (by decide) ?_
      refine lv_iand hx hb dX1_isDrawing_17 ?_
      refine lv_iconst (v := (nI 1)) hx hb dX1_isDrawing_18 (by decide) ?_
      refine lv_icmp_ne (tgt := 26) hx hb dX1_isDrawing_19 (by decide) (fun c3 => ?_) (fun c3 => ?_)
      · have h := h.1 c3
        refine lv_iconst (v := (nI 0)) hx hb dX1_isDrawing_26 (by decide) ?_
        exact rt_z X hp ⟨Or.inl rfl, h⟩ dX1_isDrawing_27
      · have h := h.2 c3
        refine lv_iconst (v := (nI 1)) hx hb dX1_isDrawing_22 (by decide) ?_
        refine lv_goto (tgt := 27) hx hb dX1_isDrawing_23 (by decide) ?_
        exact rt_z X hp ⟨Or.inr rfl, h⟩ dX1_isDrawing_27
set_option maxRecDepth 100000 in
theorem C_X1_isDrawing {E : EE} {l : Launch} {j : Nat} (hj : j < 37) {x1 : Int32} {I : II} {Q : Int32 → II → Prop} (h : wp_X1_isDrawing j x1 I Q) : Met l yX1_isDrawing (Cond.code yX1_isDrawing cX1_isDrawing 2 (some .boolean) :: lwT) rmX1_isDrawing (va_Pc [.ref (E.2.1 (8 * j)), .int x1] (PU E I)) (va_Qi Q (BU E) E.2.2.2.1) 0 0 E.2.2.2.1 :=
  ofWalk [.ref (E.2.1 (8 * j)), .int x1] (by decide) tw_c_X1_isDrawing (Nat.le_of_ble_eq_true rfl) (fun p e s m below meth c ls X hp hl => w_X1_isDrawing_0 X hj _ _ _ _ _ h hp hl)
abbrev rmX1_paperAt : Room := { frames := 0, cells := 0, slots := 0, locals := 0 }
theorem vf_X1_paperAt : VF yX1_paperAt RX1 cX1_paperAt 2 (some .int) 1 := ⟨tw_in_X1, tw_im_X1_paperAt, tw_se_X1_paperAt, tw_c_X1_paperAt, by decide, by decide, by decide +kernel⟩
def wp_X1_paperAt (j : Nat) (x1 : Int32) (I : II) (Q : Int32 → II → Prop) : Prop := ((x1 < 0 → (Q (-nI 1000000) I)) ∧ (¬ x1 < 0 → (((I (8 * j) 7) ≤ x1 → (Q (-nI 1000000) I)) ∧ (¬ (I (8 * j) 7) ≤ x1 → (((nI 7) ≤ x1 → (Q (-nI 1000000) I)) ∧ (¬ (nI 7) ≤ x1 → (vp_in x1 7 ∧ (Q (I (8 * j + 7) x1.toNatClampNeg) I))))))))
set_option maxHeartbeats 4000000 in
set_option maxRecDepth 100000 in
theorem w_X1_paperAt_0 {E : EE} {p : Program} {l : Launch} {e : Env} {s : State} {m : MethodId} {args : Array Value} {below : List Frame} {meth : Method} {c : Code} {Q : Int32 → II → Prop} (X : CX E p s m args meth c cX1_paperAt 2 (some .int) RX1) {j : Nat} (hj : j < 37) : ∀ (x1 : Int32) (I : II) (H : Heap) (locs : List Loc) (ls : Array Slot), wp_X1_paperAt j x1 I Q → PP E s H locs I → lv_has ls 2 [(0, .ref (E.2.1 (8 * j))), (1, .int x1)] → W p l e rmX1_paperAt s m args below meth c H locs 0 0 (MQ below (va_Qi Q (BU E) E.2.2.2.1) args s 0 0 E.2.2.2.1) (F0 m 0 ls []) := by
  obtain ⟨⟨hx, hb, hml, hown, hts⟩, hr, hlk, hK, hST, hN⟩ := id X
  intro x1 I H locs ls h hp hl
  unfold wp_X1_paperAt at h
  refine lv_iload_n hx hb dX1_paperAt_0 rfl (lv_at hl 1 rfl) ?_
  refine lv_if_lt (tgt := 27) hx hb dX1_paperAt_1 (by decide) (fun c1 => ?_) (fun c1 => ?_)
  · have h := h.1 c1
    refine lv_ldc (v := (-nI 1000000)) hx hb hown (hts _ tw_k_X1_68) dX1_paperAt_27 ?_
    exact rt_i X hp h dX1_paperAt_29
  · have h := h.2 c1
    refine lv_iload_n hx hb dX1_paperAt_4 rfl (lv_at hl 1 rfl) ?_
    refine lv_aload_n hx hb dX1_paperAt_5 rfl (lv_at hl 0 rfl) ?_
    refine f_X1_49 X hp hj dX1_paperAt_6 ?_
    refine lv_icmp_ge (tgt := 27) hx hb dX1_paperAt_9 (by decide) (fun c2 => ?_) (fun c2 => ?_)
    · have h := h.1 c2
      refine lv_ldc (v := (-nI 1000000)) hx hb hown (hts _ tw_k_X1_68) dX1_paperAt_27 ?_
      exact rt_i X hp h dX1_paperAt_29
    · have h := h.2 c2
      refine lv_iload_n hx hb dX1_paperAt_12 rfl (lv_at hl 1 rfl) ?_
      refine lv_bipush (v := (nI 7)) hx hb dX1_paperAt_13 (by decide) ?_
      refine lv_icmp_ge (tgt := 27) hx hb dX1_paperAt_15 (by decide) (fun c3 => ?_) (fun c3 => ?_)
      · have h := h.1 c3
        refine lv_ldc (v := (-nI 1000000)) hx hb hown (hts _ tw_k_X1_68) dX1_paperAt_27 ?_
        exact rt_i X hp h dX1_paperAt_29
      · have h := h.2 c3
        refine lv_aload_n hx hb dX1_paperAt_18 rfl (lv_at hl 0 rfl) ?_
        refine f_X1_30 X hp hj dX1_paperAt_19 ?_
        refine lv_iload_n hx hb dX1_paperAt_22 rfl (lv_at hl 1 rfl) ?_
        have hv4 := h.1
        have h := h.2
        refine al_i X hp (ar_7 hj) hv4 dX1_paperAt_23 ?_
        refine lv_goto (tgt := 29) hx hb dX1_paperAt_24 (by decide) ?_
        exact rt_i X hp h dX1_paperAt_29
set_option maxRecDepth 100000 in
theorem C_X1_paperAt {E : EE} {l : Launch} {j : Nat} (hj : j < 37) {x1 : Int32} {I : II} {Q : Int32 → II → Prop} (h : wp_X1_paperAt j x1 I Q) : Met l yX1_paperAt (Cond.code yX1_paperAt cX1_paperAt 2 (some .int) :: lwT) rmX1_paperAt (va_Pc [.ref (E.2.1 (8 * j)), .int x1] (PU E I)) (va_Qi Q (BU E) E.2.2.2.1) 0 0 E.2.2.2.1 :=
  ofWalk [.ref (E.2.1 (8 * j)), .int x1] (by decide) tw_c_X1_paperAt (Nat.le_of_ble_eq_true rfl) (fun p e s m below meth c ls X hp hl => w_X1_paperAt_0 X hj _ _ _ _ _ h hp hl)
abbrev rmX1_placeOf : Room := { frames := 0, cells := 0, slots := 0, locals := 0 }
theorem vf_X1_placeOf : VF yX1_placeOf RX1 cX1_placeOf 3 (some .int) 1 := ⟨tw_in_X1, tw_im_X1_placeOf, tw_se_X1_placeOf, tw_c_X1_placeOf, by decide, by decide, by decide +kernel⟩
def wp_X1_placeOf_2 (j : Nat) (Q : Int32 → II → Prop) (k26 : Int32 → II → Prop) (k34 : II → Prop) : Nat → Int32 → Int32 → II → Prop
  | 0, _, _, _ => False
  | n + 1, x1, x2, I => (((I (8 * j) 7) ≤ x2 → (k34 I)) ∧ (¬ (I (8 * j) 7) ≤ x2 → (((nI 7) ≤ x2 → (k34 I)) ∧ (¬ (nI 7) ≤ x2 → (vp_in x2 7 ∧ ((¬ (I (8 * j + 7) x2.toNatClampNeg) = x1 → (wp_X1_placeOf_2 j Q k26 k34 n x1 (x2 + (nI 1)) I)) ∧ ((I (8 * j + 7) x2.toNatClampNeg) = x1 → (k26 x2 I))))))))
set_option maxHeartbeats 4000000 in
set_option maxRecDepth 100000 in
theorem w_X1_placeOf_2 {E : EE} {p : Program} {l : Launch} {e : Env} {s : State} {m : MethodId} {args : Array Value} {below : List Frame} {meth : Method} {c : Code} {Q : Int32 → II → Prop} {k26 : Int32 → II → Prop} {k34 : II → Prop} (X : CX E p s m args meth c cX1_placeOf 3 (some .int) RX1) {j : Nat} (hj : j < 37) (K26 : ∀ (x2 : Int32) (I : II) (H : Heap) (locs : List Loc) (ls : Array Slot), k26 x2 I → PP E s H locs I → lv_has ls 3 [(2, .int x2)] → W p l e rmX1_placeOf s m args below meth c H locs 0 0 (MQ below (va_Qi Q (BU E) E.2.2.2.1) args s 0 0 E.2.2.2.1) (F0 m 26 ls [])) (K34 : ∀ (I : II) (H : Heap) (locs : List Loc) (ls : Array Slot), k34 I → PP E s H locs I → lv_has ls 3 [] → W p l e rmX1_placeOf s m args below meth c H locs 0 0 (MQ below (va_Qi Q (BU E) E.2.2.2.1) args s 0 0 E.2.2.2.1) (F0 m 34 ls [])) : ∀ (n : Nat) (x1 : Int32) (x2 : Int32) (I : II) (H : Heap) (locs : List Loc) (ls : Array Slot), wp_X1_placeOf_2 j Q k26 k34 n x1 x2 I → PP E s H locs I → lv_has ls 3 [(0, .ref (E.2.1 (8 * j))), (1, .int x1), (2, .int x2)] → W p l e rmX1_placeOf s m args below meth c H locs 0 0 (MQ below (va_Qi Q (BU E) E.2.2.2.1) args s 0 0 E.2.2.2.1) (F0 m 2 ls []) := by
  obtain ⟨⟨hx, hb, hml, hown, hts⟩, hr, hlk, hK, hST, hN⟩ := id X
  intro n
  induction n with
  | zero =>
    intro x1 x2 I H locs ls h hp hl
    exact False.elim h
  | succ n ih =>
    intro x1 x2 I H locs ls h hp hl
    rw [wp_X1_placeOf_2.eq_2] at h
    refine lv_iload_n hx hb dX1_placeOf_2 rfl (lv_at hl 2 rfl) ?_
    refine lv_aload_n hx hb dX1_placeOf_3 rfl (lv_at hl 0 rfl) ?_
    refine f_X1_49 X hp hj dX1_placeOf_4 ?_
    refine lv_icmp_ge (tgt := 34) hx hb dX1_placeOf_7 (by decide) (fun c1 => ?_) (fun c1 => ?_)
    · have h := h.1 c1
      exact K34 _ _ _ _ h hp (lv_sub hl [] rfl)
    · have h := h.2 c1
      refine lv_iload_n hx hb dX1_placeOf_10 rfl (lv_at hl 2 rfl) ?_
      refine lv_bipush (v := (nI 7)) hx hb dX1_placeOf_11 (by decide) ?_
      refine lv_icmp_ge (tgt := 34) hx hb dX1_placeOf_13 (by decide) (fun c2 => ?_) (fun c2 => ?_)
      · have h := h.1 c2
        exact K34 _ _ _ _ h hp (lv_sub hl [] rfl)
      · have h := h.2 c2
        refine lv_aload_n hx hb dX1_placeOf_16 rfl (lv_at hl 0 rfl) ?_
        refine f_X1_30 X hp hj dX1_placeOf_17 ?_
        refine lv_iload_n hx hb dX1_placeOf_20 rfl (lv_at hl 2 rfl) ?_
        have hv3 := h.1
        have h := h.2
        refine al_i X hp (ar_7 hj) hv3 dX1_placeOf_21 ?_
        refine lv_iload_n hx hb dX1_placeOf_22 rfl (lv_at hl 1 rfl) ?_
        refine lv_icmp_ne (tgt := 28) hx hb dX1_placeOf_23 (by decide) (fun c4 => ?_) (fun c4 => ?_)
        · have h := h.1 c4
          refine lv_iinc (v := (x2 + (nI 1))) (lv' := [(2, .int (x2 + (nI 1))), (0, .ref (E.2.1 (8 * j))), (1, .int x1)]) hx hb dX1_placeOf_28 hl (k := 2) rfl rfl (by decide) rfl (fun ls hl => ?_)
          refine lv_goto (tgt := 2) hx hb dX1_placeOf_31 (by decide) ?_
          exact ih _ _ _ _ _ _ h hp (lv_sub hl [1, 2, 0] rfl)
        · have h := h.2 c4
          exact K26 _ _ _ _ _ h hp (lv_sub hl [2] rfl)
def wp_X1_placeOf (j : Nat) (x1 : Int32) (I : II) (Q : Int32 → II → Prop) : Prop := (∃ n101, wp_X1_placeOf_2 j Q (fun x2 I => (Q x2 I)) (fun I => (Q (-nI 1000000) I)) n101 x1 (nI 0) I)
set_option maxHeartbeats 4000000 in
set_option maxRecDepth 100000 in
theorem w_X1_placeOf_0 {E : EE} {p : Program} {l : Launch} {e : Env} {s : State} {m : MethodId} {args : Array Value} {below : List Frame} {meth : Method} {c : Code} {Q : Int32 → II → Prop} (X : CX E p s m args meth c cX1_placeOf 3 (some .int) RX1) {j : Nat} (hj : j < 37) : ∀ (x1 : Int32) (I : II) (H : Heap) (locs : List Loc) (ls : Array Slot), wp_X1_placeOf j x1 I Q → PP E s H locs I → lv_has ls 3 [(0, .ref (E.2.1 (8 * j))), (1, .int x1)] → W p l e rmX1_placeOf s m args below meth c H locs 0 0 (MQ below (va_Qi Q (BU E) E.2.2.2.1) args s 0 0 E.2.2.2.1) (F0 m 0 ls []) := by
  obtain ⟨⟨hx, hb, hml, hown, hts⟩, hr, hlk, hK, hST, hN⟩ := id X
  intro x1 I H locs ls h hp hl
  unfold wp_X1_placeOf at h
  refine lv_iconst (v := (nI 0)) hx hb dX1_placeOf_0 (by decide) ?_
  refine lv_istore_n (lv' := [(2, .int (nI 0)), (0, .ref (E.2.1 (8 * j))), (1, .int x1)]) hx hb dX1_placeOf_1 rfl hl (by decide) rfl (fun ls hl => ?_)
  obtain ⟨n101, h⟩ := h
  refine w_X1_placeOf_2 X hj ?_ ?_ n101 _ _ _ _ _ _ h hp (lv_sub hl [1, 2, 0] rfl)
  · intro x2 I H locs ls h hp hl
    refine lv_iload_n hx hb dX1_placeOf_26 rfl (lv_at hl 0 rfl) ?_
    exact rt_i X hp h dX1_placeOf_27
  · intro I H locs ls h hp hl
    refine lv_ldc (v := (-nI 1000000)) hx hb hown (hts _ tw_k_X1_68) dX1_placeOf_34 ?_
    exact rt_i X hp h dX1_placeOf_36
set_option maxRecDepth 100000 in
theorem C_X1_placeOf {E : EE} {l : Launch} {j : Nat} (hj : j < 37) {x1 : Int32} {I : II} {Q : Int32 → II → Prop} (h : wp_X1_placeOf j x1 I Q) : Met l yX1_placeOf (Cond.code yX1_placeOf cX1_placeOf 3 (some .int) :: lwT) rmX1_placeOf (va_Pc [.ref (E.2.1 (8 * j)), .int x1] (PU E I)) (va_Qi Q (BU E) E.2.2.2.1) 0 0 E.2.2.2.1 :=
  ofWalk [.ref (E.2.1 (8 * j)), .int x1] (by decide) tw_c_X1_placeOf (Nat.le_of_ble_eq_true rfl) (fun p e s m below meth c ls X hp hl => w_X1_placeOf_0 X hj _ _ _ _ _ h hp hl)
abbrev rmX1_queuedBits : Room := { frames := 0, cells := 0, slots := 0, locals := 0 }
theorem vf_X1_queuedBits : VF yX1_queuedBits RX1 cX1_queuedBits 3 (some .int) 0 := ⟨tw_in_X1, tw_im_X1_queuedBits, tw_se_X1_queuedBits, tw_c_X1_queuedBits, by decide, by decide, by decide +kernel⟩
def wp_X1_queuedBits_4 (j : Nat) (Q : Int32 → II → Prop) (k35 : Int32 → II → Prop) : Nat → Int32 → Int32 → II → Prop
  | 0, _, _, _ => False
  | n + 1, x1, x2, I => (((I (8 * j) 7) ≤ x2 → (k35 x1 I)) ∧ (¬ (I (8 * j) 7) ≤ x2 → (((nI 7) ≤ x2 → (k35 x1 I)) ∧ (¬ (nI 7) ≤ x2 → (vp_in x2 7 ∧ (wp_X1_queuedBits_4 j Q k35 n (x1 ||| ((nI 1) <<< ((I (8 * j + 7) x2.toNatClampNeg) &&& 31))) (x2 + (nI 1)) I))))))
set_option maxHeartbeats 4000000 in
set_option maxRecDepth 100000 in
theorem w_X1_queuedBits_4 {E : EE} {p : Program} {l : Launch} {e : Env} {s : State} {m : MethodId} {args : Array Value} {below : List Frame} {meth : Method} {c : Code} {Q : Int32 → II → Prop} {k35 : Int32 → II → Prop} (X : CX E p s m args meth c cX1_queuedBits 3 (some .int) RX1) {j : Nat} (hj : j < 37) (K35 : ∀ (x1 : Int32) (I : II) (H : Heap) (locs : List Loc) (ls : Array Slot), k35 x1 I → PP E s H locs I → lv_has ls 3 [(1, .int x1)] → W p l e rmX1_queuedBits s m args below meth c H locs 0 0 (MQ below (va_Qi Q (BU E) E.2.2.2.1) args s 0 0 E.2.2.2.1) (F0 m 35 ls [])) : ∀ (n : Nat) (x1 : Int32) (x2 : Int32) (I : II) (H : Heap) (locs : List Loc) (ls : Array Slot), wp_X1_queuedBits_4 j Q k35 n x1 x2 I → PP E s H locs I → lv_has ls 3 [(0, .ref (E.2.1 (8 * j))), (1, .int x1), (2, .int x2)] → W p l e rmX1_queuedBits s m args below meth c H locs 0 0 (MQ below (va_Qi Q (BU E) E.2.2.2.1) args s 0 0 E.2.2.2.1) (F0 m 4 ls []) := by
  obtain ⟨⟨hx, hb, hml, hown, hts⟩, hr, hlk, hK, hST, hN⟩ := id X
  intro n
  induction n with
  | zero =>
    intro x1 x2 I H locs ls h hp hl
    exact False.elim h
  | succ n ih =>
    intro x1 x2 I H locs ls h hp hl
    rw [wp_X1_queuedBits_4.eq_2] at h
    refine lv_iload_n hx hb dX1_queuedBits_4 rfl (lv_at hl 2 rfl) ?_
    refine lv_aload_n hx hb dX1_queuedBits_5 rfl (lv_at hl 0 rfl) ?_
    refine f_X1_49 X hp hj dX1_queuedBits_6 ?_
    refine lv_icmp_ge (tgt := 35) hx hb dX1_queuedBits_9 (by decide) (fun c1 => ?_) (fun c1 => ?_)
    · have h := h.1 c1
      exact K35 _ _ _ _ _ h hp (lv_sub hl [1] rfl)
    · have h := h.2 c1
      refine lv_iload_n hx hb dX1_queuedBits_12 rfl (lv_at hl 2 rfl) ?_
      refine lv_bipush (v := (nI 7)) hx hb dX1_queuedBits_13 (by decide) ?_
      refine lv_icmp_ge (tgt := 35) hx hb dX1_queuedBits_15 (by decide) (fun c2 => ?_) (fun c2 => ?_)
      · have h := h.1 c2
        exact K35 _ _ _ _ _ h hp (lv_sub hl [1] rfl)
      · have h := h.2 c2
        refine lv_iload_n hx hb dX1_queuedBits_18 rfl (lv_at hl 1 rfl) ?_
        refine lv_iconst (v := (nI 1)) hx hb dX1_queuedBits_19 (by decide) ?_
        refine lv_aload_n hx hb dX1_queuedBits_20 rfl (lv_at hl 0 rfl) ?_
        refine f_X1_30 X hp hj dX1_queuedBits_21 ?_
        refine lv_iload_n hx hb dX1_queuedBits_24 rfl (lv_at hl 2 rfl) ?_
        have hv3 := h.1
        have h := h.2
        refine al_i X hp (ar_7 hj) hv3 dX1_queuedBits_25 ?_
        refine lv_ishl hx hb dX1_queuedBits_26 ?_
        refine lv_ior hx hb dX1_queuedBits_27 ?_
        refine lv_istore_n (lv' := [(1, .int (x1 ||| ((nI 1) <<< ((I (8 * j + 7) x2.toNatClampNeg) &&& 31)))), (0, .ref (E.2.1 (8 * j))), (2, .int x2)]) hx hb dX1_queuedBits_28 rfl hl (by decide) rfl (fun ls hl => ?_)
        refine lv_iinc (v := (x2 + (nI 1))) (lv' := [(2, .int (x2 + (nI 1))), (1, .int (x1 ||| ((nI 1) <<< ((I (8 * j + 7) x2.toNatClampNeg) &&& 31)))), (0, .ref (E.2.1 (8 * j)))]) hx hb dX1_queuedBits_29 hl (k := 2) rfl rfl (by decide) rfl (fun ls hl => ?_)
        refine lv_goto (tgt := 4) hx hb dX1_queuedBits_32 (by decide) ?_
        exact ih _ _ _ _ _ _ h hp (lv_sub hl [2, 1, 0] rfl)
def wp_X1_queuedBits (j : Nat) (I : II) (Q : Int32 → II → Prop) : Prop := (∃ n51, wp_X1_queuedBits_4 j Q (fun x1 I => (Q x1 I)) n51 (nI 0) (nI 0) I)
set_option maxHeartbeats 4000000 in
set_option maxRecDepth 100000 in
theorem w_X1_queuedBits_0 {E : EE} {p : Program} {l : Launch} {e : Env} {s : State} {m : MethodId} {args : Array Value} {below : List Frame} {meth : Method} {c : Code} {Q : Int32 → II → Prop} (X : CX E p s m args meth c cX1_queuedBits 3 (some .int) RX1) {j : Nat} (hj : j < 37) : ∀ (I : II) (H : Heap) (locs : List Loc) (ls : Array Slot), wp_X1_queuedBits j I Q → PP E s H locs I → lv_has ls 3 [(0, .ref (E.2.1 (8 * j)))] → W p l e rmX1_queuedBits s m args below meth c H locs 0 0 (MQ below (va_Qi Q (BU E) E.2.2.2.1) args s 0 0 E.2.2.2.1) (F0 m 0 ls []) := by
  obtain ⟨⟨hx, hb, hml, hown, hts⟩, hr, hlk, hK, hST, hN⟩ := id X
  intro I H locs ls h hp hl
  unfold wp_X1_queuedBits at h
  refine lv_iconst (v := (nI 0)) hx hb dX1_queuedBits_0 (by decide) ?_
  refine lv_istore_n (lv' := [(1, .int (nI 0)), (0, .ref (E.2.1 (8 * j)))]) hx hb dX1_queuedBits_1 rfl hl (by decide) rfl (fun ls hl => ?_)
  refine lv_iconst (v := (nI 0)) hx hb dX1_queuedBits_2 (by decide) ?_
  refine lv_istore_n (lv' := [(2, .int (nI 0)), (1, .int (nI 0)), (0, .ref (E.2.1 (8 * j)))]) hx hb dX1_queuedBits_3 rfl hl (by decide) rfl (fun ls hl => ?_)
  obtain ⟨n51, h⟩ := h
  refine w_X1_queuedBits_4 X hj ?_ n51 _ _ _ _ _ _ h hp (lv_sub hl [2, 1, 0] rfl)
  · intro x1 I H locs ls h hp hl
    refine lv_iload_n hx hb dX1_queuedBits_35 rfl (lv_at hl 0 rfl) ?_
    exact rt_i X hp h dX1_queuedBits_36
set_option maxRecDepth 100000 in
theorem C_X1_queuedBits {E : EE} {l : Launch} {j : Nat} (hj : j < 37) {I : II} {Q : Int32 → II → Prop} (h : wp_X1_queuedBits j I Q) : Met l yX1_queuedBits (Cond.code yX1_queuedBits cX1_queuedBits 3 (some .int) :: lwT) rmX1_queuedBits (va_Pc [.ref (E.2.1 (8 * j))] (PU E I)) (va_Qi Q (BU E) E.2.2.2.1) 0 0 E.2.2.2.1 :=
  ofWalk [.ref (E.2.1 (8 * j))] (by decide) tw_c_X1_queuedBits (Nat.le_of_ble_eq_true rfl) (fun p e s m below meth c ls X hp hl => w_X1_queuedBits_0 X hj _ _ _ _ h hp hl)
abbrev rmX1_join : Room := { frames := 1, cells := 0, slots := 0, locals := 22 }
theorem vf_X1_join : VF yX1_join RX1 cX1_join 6 (some .int) 2 := ⟨tw_in_X1, tw_im_X1_join, tw_se_X1_join, tw_c_X1_join, by decide, by decide, by decide +kernel⟩
def wp_X1_join_8 (j : Nat) (Q : Int32 → II → Prop) (k33 : Int32 → Int32 → Int32 → II → Prop) (k115 : II → Prop) : Nat → Int32 → Int32 → Int32 → Int32 → II → Prop
  | 0, _, _, _, _, _ => False
  | n + 1, x1, x2, x3, x4, I => (((nI 7) ≤ x4 → (k115 I)) ∧ (¬ (nI 7) ≤ x4 → (((nI 7) ≤ (I (8 * j) 7) → (k115 I)) ∧ (¬ (nI 7) ≤ (I (8 * j) 7) → ((¬ ((x3 >>> (x4 &&& 31)) &&& (nI 1)) = 0 → (wp_X1_join_8 j Q k33 k115 n x1 x2 x3 (x4 + (nI 1)) I)) ∧ (((x3 >>> (x4 &&& 31)) &&& (nI 1)) = 0 → (k33 x1 x2 x4 I)))))))
set_option maxHeartbeats 4000000 in
set_option maxRecDepth 100000 in
theorem w_X1_join_8 {E : EE} {p : Program} {l : Launch} {e : Env} {s : State} {m : MethodId} {args : Array Value} {below : List Frame} {meth : Method} {c : Code} {Q : Int32 → II → Prop} {k33 : Int32 → Int32 → Int32 → II → Prop} {k115 : II → Prop} (X : CX E p s m args meth c cX1_join 6 (some .int) RX1) {j : Nat} (hj : j < 37) (K33 : ∀ (x1 : Int32) (x2 : Int32) (x4 : Int32) (I : II) (H : Heap) (locs : List Loc) (ls : Array Slot), k33 x1 x2 x4 I → PP E s H locs I → lv_has ls 6 [(0, .ref (E.2.1 (8 * j))), (1, .int x1), (2, .int x2), (4, .int x4)] → W p l e rmX1_join s m args below meth c H locs 0 0 (MQ below (va_Qi Q (BU E) E.2.2.2.1) args s 0 0 E.2.2.2.1) (F0 m 33 ls [])) (K115 : ∀ (I : II) (H : Heap) (locs : List Loc) (ls : Array Slot), k115 I → PP E s H locs I → lv_has ls 6 [] → W p l e rmX1_join s m args below meth c H locs 0 0 (MQ below (va_Qi Q (BU E) E.2.2.2.1) args s 0 0 E.2.2.2.1) (F0 m 115 ls [])) : ∀ (n : Nat) (x1 : Int32) (x2 : Int32) (x3 : Int32) (x4 : Int32) (I : II) (H : Heap) (locs : List Loc) (ls : Array Slot), wp_X1_join_8 j Q k33 k115 n x1 x2 x3 x4 I → PP E s H locs I → lv_has ls 6 [(0, .ref (E.2.1 (8 * j))), (1, .int x1), (2, .int x2), (3, .int x3), (4, .int x4)] → W p l e rmX1_join s m args below meth c H locs 0 0 (MQ below (va_Qi Q (BU E) E.2.2.2.1) args s 0 0 E.2.2.2.1) (F0 m 8 ls []) := by
  obtain ⟨⟨hx, hb, hml, hown, hts⟩, hr, hlk, hK, hST, hN⟩ := id X
  intro n
  induction n with
  | zero =>
    intro x1 x2 x3 x4 I H locs ls h hp hl
    exact False.elim h
  | succ n ih =>
    intro x1 x2 x3 x4 I H locs ls h hp hl
    rw [wp_X1_join_8.eq_2] at h
    refine lv_iload hx hb dX1_join_8 (lv_at hl 4 rfl) ?_
    refine lv_bipush (v := (nI 7)) hx hb dX1_join_10 (by decide) ?_
    refine lv_icmp_ge (tgt := 115) hx hb dX1_join_12 (by decide) (fun c1 => ?_) (fun c1 => ?_)
    · have h := h.1 c1
      exact K115 _ _ _ _ h hp (lv_sub hl [] rfl)
    · have h := h.2 c1
      refine lv_aload_n hx hb dX1_join_15 rfl (lv_at hl 0 rfl) ?_
      refine f_X1_49 X hp hj dX1_join_16 ?_
      refine lv_bipush (v := (nI 7)) hx hb dX1_join_19 (by decide) ?_
      refine lv_icmp_ge (tgt := 115) hx hb dX1_join_21 (by decide) (fun c2 => ?_) (fun c2 => ?_)
      · have h := h.1 c2
        exact K115 _ _ _ _ h hp (lv_sub hl [] rfl)
      · have h := h.2 c2
        refine lv_iload_n hx hb dX1_join_24 rfl (lv_at hl 3 rfl) ?_
        refine lv_iload hx hb dX1_join_25 (lv_at hl 4 rfl) ?_
        refine lv_ishr hx hb dX1_join_27 ?_
        refine lv_iconst (v := (nI 1)) hx hb dX1_join_28 (by decide) ?_
        refine lv_iand hx hb dX1_join_29 ?_
        refine lv_if_ne (tgt := 109) hx hb dX1_join_30 (by decide) (fun c3 => ?_) (fun c3 => ?_)
        · have h := h.1 c3
          refine lv_iinc (v := (x4 + (nI 1))) (lv' := [(4, .int (x4 + (nI 1))), (0, .ref (E.2.1 (8 * j))), (1, .int x1), (2, .int x2), (3, .int x3)]) hx hb dX1_join_109 hl (k := 4) rfl rfl (by decide) rfl (fun ls hl => ?_)
          refine lv_goto (tgt := 8) hx hb dX1_join_112 (by decide) ?_
          exact ih _ _ _ _ _ _ _ _ h hp (lv_sub hl [1, 2, 3, 4, 0] rfl)
        · have h := h.2 c3
          exact K33 _ _ _ _ _ _ _ h hp (lv_sub hl [0, 1, 2, 4] rfl)
def wp_X1_join_74 (j : Nat) (Q : Int32 → II → Prop) (x2 : Int32) (x4 : Int32) (v0 : Int32) (I : II) : Prop := (∀ I1 : II, I1 = su I (8 * j) 8 v0 → (vp_in x4 7 ∧ ∀ I4 : II, I4 = su I1 (8 * j + 6) x4.toNatClampNeg x2 → (vp_in (I4 (8 * j) 7) 7 ∧ ∀ I7 : II, I7 = su I4 (8 * j + 7) (I4 (8 * j) 7).toNatClampNeg x4 → (∀ I9 : II, I9 = su I7 (8 * j) 7 ((I7 (8 * j) 7) + (nI 1)) → (Q x4 I9)))))
set_option maxHeartbeats 4000000 in
set_option maxRecDepth 100000 in
theorem w_X1_join_74 {E : EE} {p : Program} {l : Launch} {e : Env} {s : State} {m : MethodId} {args : Array Value} {below : List Frame} {meth : Method} {c : Code} {Q : Int32 → II → Prop} (X : CX E p s m args meth c cX1_join 6 (some .int) RX1) {j : Nat} (hj : j < 37) : ∀ (x2 : Int32) (x4 : Int32) (v0 : Int32) (I : II) (H : Heap) (locs : List Loc) (ls : Array Slot), wp_X1_join_74 j Q x2 x4 v0 I → PP E s H locs I → lv_has ls 6 [(0, .ref (E.2.1 (8 * j))), (2, .int x2), (4, .int x4)] → W p l e rmX1_join s m args below meth c H locs 0 0 (MQ below (va_Qi Q (BU E) E.2.2.2.1) args s 0 0 E.2.2.2.1) (F0 m 74 ls [.int v0, .ref (E.2.1 (8 * j))]) := by
  obtain ⟨⟨hx, hb, hml, hown, hts⟩, hr, hlk, hK, hST, hN⟩ := id X
  intro x2 x4 v0 I H locs ls h hp hl
  unfold wp_X1_join_74 at h
  refine g_X1_52 X hp hj dX1_join_74 (fun H locs hp => ?_)
  obtain ⟨I1, e2⟩ : ∃ y, y = su I (8 * j) 8 v0 := ⟨_, rfl⟩
  have hp : PP E s H locs I1 := by rw [e2]; exact hp
  have h := h I1 e2
  refine lv_aload_n hx hb dX1_join_77 rfl (lv_at hl 0 rfl) ?_
  refine f_X1_27 X hp hj dX1_join_78 ?_
  refine lv_iload hx hb dX1_join_81 (lv_at hl 2 rfl) ?_
  refine lv_iload_n hx hb dX1_join_83 rfl (lv_at hl 1 rfl) ?_
  have hv3 := h.1
  have h := h.2
  refine as_i X hp (ar_6 hj) hv3 dX1_join_84 (fun H locs hp => ?_)
  obtain ⟨I4, e5⟩ : ∃ y, y = su I1 (8 * j + 6) x4.toNatClampNeg x2 := ⟨_, rfl⟩
  have hp : PP E s H locs I4 := by rw [e5]; exact hp
  have h := h I4 e5
  refine lv_aload_n hx hb dX1_join_85 rfl (lv_at hl 0 rfl) ?_
  refine f_X1_30 X hp hj dX1_join_86 ?_
  refine lv_aload_n hx hb dX1_join_89 rfl (lv_at hl 0 rfl) ?_
  refine f_X1_49 X hp hj dX1_join_90 ?_
  refine lv_iload hx hb dX1_join_93 (lv_at hl 2 rfl) ?_
  have hv6 := h.1
  have h := h.2
  refine as_i X hp (ar_7 hj) hv6 dX1_join_95 (fun H locs hp => ?_)
  obtain ⟨I7, e8⟩ : ∃ y, y = su I4 (8 * j + 7) (I4 (8 * j) 7).toNatClampNeg x4 := ⟨_, rfl⟩
  have hp : PP E s H locs I7 := by rw [e8]; exact hp
  have h := h I7 e8
  refine lv_aload_n hx hb dX1_join_96 rfl (lv_at hl 0 rfl) ?_
  refine lv_dup hx hb dX1_join_97 rfl ?_
  refine f_X1_49 X hp hj dX1_join_98 ?_
  refine lv_iconst (v := (nI 1)) hx hb dX1_join_101 (by decide) ?_
  refine lv_iadd hx hb dX1_join_102 ?_
  refine g_X1_49 X hp hj dX1_join_103 (fun H locs hp => ?_)
  obtain ⟨I9, e10⟩ : ∃ y, y = su I7 (8 * j) 7 ((I7 (8 * j) 7) + (nI 1)) := ⟨_, rfl⟩
  have hp : PP E s H locs I9 := by rw [e10]; exact hp
  have h := h I9 e10
  refine lv_iload hx hb dX1_join_106 (lv_at hl 2 rfl) ?_
  exact rt_i X hp h dX1_join_108
def wp_X1_join (j : Nat) (x1 : Int32) (x2 : Int32) (I : II) (Q : Int32 → II → Prop) : Prop := (wp_X1_queuedBits j I (fun r2 I1 => (∃ n106, wp_X1_join_8 j Q (fun x1 x2 x4 I => (∀ I53 : II, I53 = su I (8 * j) 9 ((I (8 * j) 9) ||| ((nI 1) <<< (x4 &&& 31))) → ((x1 = 0 → (wp_X1_join_74 j Q x2 x4 ((I53 (8 * j) 8) &&& (((nI 1) <<< (x4 &&& 31)) ^^^ (-nI 1))) I53)) ∧ (¬ x1 = 0 → (wp_X1_join_74 j Q x2 x4 ((I53 (8 * j) 8) ||| ((nI 1) <<< (x4 &&& 31))) I53))))) (fun I => (Q (-nI 1000000) I)) n106 x1 x2 r2 (nI 0) I1)))
set_option maxHeartbeats 4000000 in
set_option maxRecDepth 100000 in
theorem w_X1_join_0 {E : EE} {p : Program} {l : Launch} {e : Env} {s : State} {m : MethodId} {args : Array Value} {below : List Frame} {meth : Method} {c : Code} {Q : Int32 → II → Prop} (X : CX E p s m args meth c cX1_join 6 (some .int) RX1) {j : Nat} (hj : j < 37) : ∀ (x1 : Int32) (x2 : Int32) (I : II) (H : Heap) (locs : List Loc) (ls : Array Slot), wp_X1_join j x1 x2 I Q → PP E s H locs I → lv_has ls 6 [(0, .ref (E.2.1 (8 * j))), (1, .int x1), (2, .int x2)] → W p l e rmX1_join s m args below meth c H locs 0 0 (MQ below (va_Qi Q (BU E) E.2.2.2.1) args s 0 0 E.2.2.2.1) (F0 m 0 ls []) := by
  obtain ⟨⟨hx, hb, hml, hown, hts⟩, hr, hlk, hK, hST, hN⟩ := id X
  intro x1 x2 I H locs ls h hp hl
  unfold wp_X1_join at h
  refine lv_aload_n hx hb dX1_join_0 rfl (lv_at hl 0 rfl) ?_
  refine ki (kV (As := []) (rest := []) X hp (C_X1_queuedBits hj h) tw_ml_X1_69 vf_X1_queuedBits ⟨rfl, rfl, Nat.le_of_ble_eq_true rfl, Nat.le_of_ble_eq_true rfl⟩ (pr_rcvb X hp hj) rfl hl.1 rfl (Nat.le_of_ble_eq_true rfl) dX1_join_1) hp (fun r2 I1 H locs h hp => ?_)
  refine lv_istore_n (lv' := [(3, .int r2), (0, .ref (E.2.1 (8 * j))), (1, .int x1), (2, .int x2)]) hx hb dX1_join_4 rfl hl (by decide) rfl (fun ls hl => ?_)
  refine lv_iconst (v := (nI 0)) hx hb dX1_join_5 (by decide) ?_
  refine lv_istore (lv' := [(4, .int (nI 0)), (3, .int r2), (0, .ref (E.2.1 (8 * j))), (1, .int x1), (2, .int x2)]) hx hb dX1_join_6 hl (by decide) rfl (fun ls hl => ?_)
  obtain ⟨n106, h⟩ := h
  refine w_X1_join_8 X hj ?_ ?_ n106 _ _ _ _ _ _ _ _ h hp (lv_sub hl [2, 3, 4, 1, 0] rfl)
  · intro x1 x2 x4 I H locs ls h hp hl
    refine lv_iconst (v := (nI 1)) hx hb dX1_join_33 (by decide) ?_
    refine lv_iload hx hb dX1_join_34 (lv_at hl 3 rfl) ?_
    refine lv_ishl hx hb dX1_join_36 ?_
    refine lv_istore (lv' := [(5, .int ((nI 1) <<< (x4 &&& 31))), (0, .ref (E.2.1 (8 * j))), (1, .int x1), (2, .int x2), (4, .int x4)]) hx hb dX1_join_37 hl (by decide) rfl (fun ls hl => ?_)
    refine lv_aload_n hx hb dX1_join_39 rfl (lv_at hl 1 rfl) ?_
    refine lv_dup hx hb dX1_join_40 rfl ?_
    refine f_X1_55 X hp hj dX1_join_41 ?_
    refine lv_iload hx hb dX1_join_44 (lv_at hl 0 rfl) ?_
    refine lv_ior hx hb dX1_join_46 ?_
    refine g_X1_55 X hp hj dX1_join_47 (fun H locs hp => ?_)
    obtain ⟨I53, e54⟩ : ∃ y, y = su I (8 * j) 9 ((I (8 * j) 9) ||| ((nI 1) <<< (x4 &&& 31))) := ⟨_, rfl⟩
    have hp : PP E s H locs I53 := by rw [e54]; exact hp
    have h := h I53 e54
    refine lv_aload_n hx hb dX1_join_50 rfl (lv_at hl 1 rfl) ?_
    refine lv_iload_n hx hb dX1_join_51 rfl (lv_at hl 2 rfl) ?_
    refine lv_if_eq (tgt := 65) hx hb dX1_join_52 (by decide) (fun c55 => ?_) (fun c55 => ?_)
    · have h := h.1 c55
      refine lv_aload_n hx hb dX1_join_65 rfl (lv_at hl 1 rfl) ?_
      refine f_X1_52 X hp hj dX1_join_66 ?_
      refine lv_iload hx hb dX1_join_69 (lv_at hl 0 rfl) ?_
      refine lv_iconst (v := (-nI 1)) hx hb dX1_join_71 (by decide) ?_
      refine lv_ixor hx hb dX1_join_72 ?_
      refine lv_iand hx hb dX1_join_73 ?_
      exact w_X1_join_74 X hj  _ _ _ _ _ _ _ h hp (lv_sub hl [1, 3, 4] rfl)
    · have h := h.2 c55
      refine lv_aload_n hx hb dX1_join_55 rfl (lv_at hl 1 rfl) ?_
      refine f_X1_52 X hp hj dX1_join_56 ?_
      refine lv_iload hx hb dX1_join_59 (lv_at hl 0 rfl) ?_
      refine lv_ior hx hb dX1_join_61 ?_
      refine lv_goto (tgt := 74) hx hb dX1_join_62 (by decide) ?_
      exact w_X1_join_74 X hj  _ _ _ _ _ _ _ h hp (lv_sub hl [1, 3, 4] rfl)
  · intro I H locs ls h hp hl
    refine lv_ldc (v := (-nI 1000000)) hx hb hown (hts _ tw_k_X1_68) dX1_join_115 ?_
    exact rt_i X hp h dX1_join_117
set_option maxRecDepth 100000 in
theorem C_X1_join {E : EE} {l : Launch} {j : Nat} (hj : j < 37) {x1 : Int32} {x2 : Int32} {I : II} {Q : Int32 → II → Prop} (h : wp_X1_join j x1 x2 I Q) : Met l yX1_join (Cond.code yX1_join cX1_join 6 (some .int) :: lwT) rmX1_join (va_Pc [.ref (E.2.1 (8 * j)), .int x1, .int x2] (PU E I)) (va_Qi Q (BU E) E.2.2.2.1) 0 0 E.2.2.2.1 :=
  ofWalk [.ref (E.2.1 (8 * j)), .int x1, .int x2] (by decide) tw_c_X1_join (Nat.le_of_ble_eq_true rfl) (fun p e s m below meth c ls X hp hl => w_X1_join_0 X hj _ _ _ _ _ _ h hp hl)
abbrev rmX1_leave : Room := { frames := 1, cells := 0, slots := 0, locals := 21 }
theorem vf_X1_leave : VF yX1_leave RX1 cX1_leave 4 (some .int) 1 := ⟨tw_in_X1, tw_im_X1_leave, tw_se_X1_leave, tw_c_X1_leave, by decide, by decide, by decide +kernel⟩
def wp_X1_leave_19 (j : Nat) (Q : Int32 → II → Prop) (k53 : Int32 → II → Prop) : Nat → Int32 → Int32 → II → Prop
  | 0, _, _, _ => False
  | n + 1, x2, x3, I => (((I (8 * j) 7) ≤ x3 → (k53 x2 I)) ∧ (¬ (I (8 * j) 7) ≤ x3 → (((nI 7) ≤ x3 → (k53 x2 I)) ∧ (¬ (nI 7) ≤ x3 → (vp_in x3 7 ∧ (vp_in (x3 - (nI 1)) 7 ∧ ∀ I5 : II, I5 = su I (8 * j + 7) (x3 - (nI 1)).toNatClampNeg (I (8 * j + 7) x3.toNatClampNeg) → (wp_X1_leave_19 j Q k53 n x2 (x3 + (nI 1)) I5)))))))
set_option maxHeartbeats 4000000 in
set_option maxRecDepth 100000 in
theorem w_X1_leave_19 {E : EE} {p : Program} {l : Launch} {e : Env} {s : State} {m : MethodId} {args : Array Value} {below : List Frame} {meth : Method} {c : Code} {Q : Int32 → II → Prop} {k53 : Int32 → II → Prop} (X : CX E p s m args meth c cX1_leave 4 (some .int) RX1) {j : Nat} (hj : j < 37) (K53 : ∀ (x2 : Int32) (I : II) (H : Heap) (locs : List Loc) (ls : Array Slot), k53 x2 I → PP E s H locs I → lv_has ls 4 [(0, .ref (E.2.1 (8 * j))), (2, .int x2)] → W p l e rmX1_leave s m args below meth c H locs 0 0 (MQ below (va_Qi Q (BU E) E.2.2.2.1) args s 0 0 E.2.2.2.1) (F0 m 53 ls [])) : ∀ (n : Nat) (x2 : Int32) (x3 : Int32) (I : II) (H : Heap) (locs : List Loc) (ls : Array Slot), wp_X1_leave_19 j Q k53 n x2 x3 I → PP E s H locs I → lv_has ls 4 [(0, .ref (E.2.1 (8 * j))), (2, .int x2), (3, .int x3)] → W p l e rmX1_leave s m args below meth c H locs 0 0 (MQ below (va_Qi Q (BU E) E.2.2.2.1) args s 0 0 E.2.2.2.1) (F0 m 19 ls []) := by
  obtain ⟨⟨hx, hb, hml, hown, hts⟩, hr, hlk, hK, hST, hN⟩ := id X
  intro n
  induction n with
  | zero =>
    intro x2 x3 I H locs ls h hp hl
    exact False.elim h
  | succ n ih =>
    intro x2 x3 I H locs ls h hp hl
    rw [wp_X1_leave_19.eq_2] at h
    refine lv_iload_n hx hb dX1_leave_19 rfl (lv_at hl 2 rfl) ?_
    refine lv_aload_n hx hb dX1_leave_20 rfl (lv_at hl 0 rfl) ?_
    refine f_X1_49 X hp hj dX1_leave_21 ?_
    refine lv_icmp_ge (tgt := 53) hx hb dX1_leave_24 (by decide) (fun c1 => ?_) (fun c1 => ?_)
    · have h := h.1 c1
      exact K53 _ _ _ _ _ h hp (lv_sub hl [0, 1] rfl)
    · have h := h.2 c1
      refine lv_iload_n hx hb dX1_leave_27 rfl (lv_at hl 2 rfl) ?_
      refine lv_bipush (v := (nI 7)) hx hb dX1_leave_28 (by decide) ?_
      refine lv_icmp_ge (tgt := 53) hx hb dX1_leave_30 (by decide) (fun c2 => ?_) (fun c2 => ?_)
      · have h := h.1 c2
        exact K53 _ _ _ _ _ h hp (lv_sub hl [0, 1] rfl)
      · have h := h.2 c2
        refine lv_aload_n hx hb dX1_leave_33 rfl (lv_at hl 0 rfl) ?_
        refine f_X1_30 X hp hj dX1_leave_34 ?_
        refine lv_iload_n hx hb dX1_leave_37 rfl (lv_at hl 2 rfl) ?_
        refine lv_iconst (v := (nI 1)) hx hb dX1_leave_38 (by decide) ?_
        refine lv_isub hx hb dX1_leave_39 ?_
        refine lv_aload_n hx hb dX1_leave_40 rfl (lv_at hl 0 rfl) ?_
        refine f_X1_30 X hp hj dX1_leave_41 ?_
        refine lv_iload_n hx hb dX1_leave_44 rfl (lv_at hl 2 rfl) ?_
        have hv3 := h.1
        have h := h.2
        refine al_i X hp (ar_7 hj) hv3 dX1_leave_45 ?_
        have hv4 := h.1
        have h := h.2
        refine as_i X hp (ar_7 hj) hv4 dX1_leave_46 (fun H locs hp => ?_)
        obtain ⟨I5, e6⟩ : ∃ y, y = su I (8 * j + 7) (x3 - (nI 1)).toNatClampNeg (I (8 * j + 7) x3.toNatClampNeg) := ⟨_, rfl⟩
        have hp : PP E s H locs I5 := by rw [e6]; exact hp
        have h := h I5 e6
        refine lv_iinc (v := (x3 + (nI 1))) (lv' := [(3, .int (x3 + (nI 1))), (0, .ref (E.2.1 (8 * j))), (2, .int x2)]) hx hb dX1_leave_47 hl (k := 2) rfl rfl (by decide) rfl (fun ls hl => ?_)
        refine lv_goto (tgt := 19) hx hb dX1_leave_50 (by decide) ?_
        exact ih _ _ _ _ _ _ h hp (lv_sub hl [1, 2, 0] rfl)
def wp_X1_leave_53 (j : Nat) (Q : Int32 → II → Prop) (x2 : Int32) (I : II) : Prop := (∀ I1 : II, I1 = su I (8 * j) 7 ((I (8 * j) 7) - (nI 1)) → (Q x2 I1))
set_option maxHeartbeats 4000000 in
set_option maxRecDepth 100000 in
theorem w_X1_leave_53 {E : EE} {p : Program} {l : Launch} {e : Env} {s : State} {m : MethodId} {args : Array Value} {below : List Frame} {meth : Method} {c : Code} {Q : Int32 → II → Prop} (X : CX E p s m args meth c cX1_leave 4 (some .int) RX1) {j : Nat} (hj : j < 37) : ∀ (x2 : Int32) (I : II) (H : Heap) (locs : List Loc) (ls : Array Slot), wp_X1_leave_53 j Q x2 I → PP E s H locs I → lv_has ls 4 [(0, .ref (E.2.1 (8 * j))), (2, .int x2)] → W p l e rmX1_leave s m args below meth c H locs 0 0 (MQ below (va_Qi Q (BU E) E.2.2.2.1) args s 0 0 E.2.2.2.1) (F0 m 53 ls []) := by
  obtain ⟨⟨hx, hb, hml, hown, hts⟩, hr, hlk, hK, hST, hN⟩ := id X
  intro x2 I H locs ls h hp hl
  unfold wp_X1_leave_53 at h
  refine lv_aload_n hx hb dX1_leave_53 rfl (lv_at hl 0 rfl) ?_
  refine lv_dup hx hb dX1_leave_54 rfl ?_
  refine f_X1_49 X hp hj dX1_leave_55 ?_
  refine lv_iconst (v := (nI 1)) hx hb dX1_leave_58 (by decide) ?_
  refine lv_isub hx hb dX1_leave_59 ?_
  refine g_X1_49 X hp hj dX1_leave_60 (fun H locs hp => ?_)
  obtain ⟨I1, e2⟩ : ∃ y, y = su I (8 * j) 7 ((I (8 * j) 7) - (nI 1)) := ⟨_, rfl⟩
  have hp : PP E s H locs I1 := by rw [e2]; exact hp
  have h := h I1 e2
  refine lv_iload_n hx hb dX1_leave_63 rfl (lv_at hl 1 rfl) ?_
  exact rt_i X hp h dX1_leave_64
def wp_X1_leave (j : Nat) (x1 : Int32) (I : II) (Q : Int32 → II → Prop) : Prop := (wp_X1_paperAt j x1 I (fun r2 I1 => ((¬ r2 = (-nI 1000000) → (∃ n54, wp_X1_leave_19 j Q (fun x2 I => (wp_X1_leave_53 j Q x2 I)) n54 r2 (x1 + (nI 1)) I1)) ∧ (r2 = (-nI 1000000) → (Q (-nI 1000000) I1)))))
set_option maxHeartbeats 4000000 in
set_option maxRecDepth 100000 in
theorem w_X1_leave_0 {E : EE} {p : Program} {l : Launch} {e : Env} {s : State} {m : MethodId} {args : Array Value} {below : List Frame} {meth : Method} {c : Code} {Q : Int32 → II → Prop} (X : CX E p s m args meth c cX1_leave 4 (some .int) RX1) {j : Nat} (hj : j < 37) : ∀ (x1 : Int32) (I : II) (H : Heap) (locs : List Loc) (ls : Array Slot), wp_X1_leave j x1 I Q → PP E s H locs I → lv_has ls 4 [(0, .ref (E.2.1 (8 * j))), (1, .int x1)] → W p l e rmX1_leave s m args below meth c H locs 0 0 (MQ below (va_Qi Q (BU E) E.2.2.2.1) args s 0 0 E.2.2.2.1) (F0 m 0 ls []) := by
  obtain ⟨⟨hx, hb, hml, hown, hts⟩, hr, hlk, hK, hST, hN⟩ := id X
  intro x1 I H locs ls h hp hl
  unfold wp_X1_leave at h
  refine lv_aload_n hx hb dX1_leave_0 rfl (lv_at hl 0 rfl) ?_
  refine lv_iload_n hx hb dX1_leave_1 rfl (lv_at hl 1 rfl) ?_
  refine ki (kV (As := [.int x1]) (rest := []) X hp (C_X1_paperAt hj h) tw_ml_X1_73 vf_X1_paperAt ⟨rfl, rfl, Nat.le_of_ble_eq_true rfl, Nat.le_of_ble_eq_true rfl⟩ (pr_rcvb X hp hj) rfl hl.1 rfl (Nat.le_of_ble_eq_true rfl) dX1_leave_2) hp (fun r2 I1 H locs h hp => ?_)
  refine lv_istore_n (lv' := [(2, .int r2), (0, .ref (E.2.1 (8 * j))), (1, .int x1)]) hx hb dX1_leave_5 rfl hl (by decide) rfl (fun ls hl => ?_)
  refine lv_iload_n hx hb dX1_leave_6 rfl (lv_at hl 0 rfl) ?_
  refine lv_ldc (v := (-nI 1000000)) hx hb hown (hts _ tw_k_X1_68) dX1_leave_7 ?_
  refine lv_icmp_ne (tgt := 15) hx hb dX1_leave_9 (by decide) (fun c3 => ?_) (fun c3 => ?_)
  · have h := h.1 c3
    refine lv_iload_n hx hb dX1_leave_15 rfl (lv_at hl 2 rfl) ?_
    refine lv_iconst (v := (nI 1)) hx hb dX1_leave_16 (by decide) ?_
    refine lv_iadd hx hb dX1_leave_17 ?_
    refine lv_istore_n (lv' := [(3, .int (x1 + (nI 1))), (2, .int r2), (0, .ref (E.2.1 (8 * j))), (1, .int x1)]) hx hb dX1_leave_18 rfl hl (by decide) rfl (fun ls hl => ?_)
    obtain ⟨n54, h⟩ := h
    refine w_X1_leave_19 X hj ?_ n54 _ _ _ _ _ _ h hp (lv_sub hl [2, 1, 0] rfl)
    · intro x2 I H locs ls h hp hl
      exact w_X1_leave_53 X hj  _ _ _ _ _ h hp (lv_sub hl [0, 1] rfl)
  · have h := h.2 c3
    refine lv_ldc (v := (-nI 1000000)) hx hb hown (hts _ tw_k_X1_68) dX1_leave_12 ?_
    exact rt_i X hp h dX1_leave_14
set_option maxRecDepth 100000 in
theorem C_X1_leave {E : EE} {l : Launch} {j : Nat} (hj : j < 37) {x1 : Int32} {I : II} {Q : Int32 → II → Prop} (h : wp_X1_leave j x1 I Q) : Met l yX1_leave (Cond.code yX1_leave cX1_leave 4 (some .int) :: lwT) rmX1_leave (va_Pc [.ref (E.2.1 (8 * j)), .int x1] (PU E I)) (va_Qi Q (BU E) E.2.2.2.1) 0 0 E.2.2.2.1 :=
  ofWalk [.ref (E.2.1 (8 * j)), .int x1] (by decide) tw_c_X1_leave (Nat.le_of_ble_eq_true rfl) (fun p e s m below meth c ls X hp hl => w_X1_leave_0 X hj _ _ _ _ _ h hp hl)
abbrev rmX1_swapFirst : Room := { frames := 0, cells := 0, slots := 0, locals := 0 }
theorem vf_X1_swapFirst : VF yX1_swapFirst RX1 cX1_swapFirst 2 none 0 := ⟨tw_in_X1, tw_im_X1_swapFirst, tw_se_X1_swapFirst, tw_c_X1_swapFirst, by decide, by decide, by decide +kernel⟩
def wp_X1_swapFirst (j : Nat) (I : II) (Q : II → Prop) : Prop := (((I (8 * j) 7) < (nI 2) → (Q I)) ∧ (¬ (I (8 * j) 7) < (nI 2) → (vp_in (nI 0) 7 ∧ (vp_in (nI 1) 7 ∧ (vp_in (nI 0) 7 ∧ ∀ I5 : II, I5 = su I (8 * j + 7) (nI 0).toNatClampNeg (I (8 * j + 7) (nI 1).toNatClampNeg) → (vp_in (nI 1) 7 ∧ ∀ I8 : II, I8 = su I5 (8 * j + 7) (nI 1).toNatClampNeg (I (8 * j + 7) (nI 0).toNatClampNeg) → (Q I8)))))))
set_option maxHeartbeats 4000000 in
set_option maxRecDepth 100000 in
theorem w_X1_swapFirst_0 {E : EE} {p : Program} {l : Launch} {e : Env} {s : State} {m : MethodId} {args : Array Value} {below : List Frame} {meth : Method} {c : Code} {Q : II → Prop} (X : CX E p s m args meth c cX1_swapFirst 2 none RX1) {j : Nat} (hj : j < 37) : ∀ (I : II) (H : Heap) (locs : List Loc) (ls : Array Slot), wp_X1_swapFirst j I Q → PP E s H locs I → lv_has ls 2 [(0, .ref (E.2.1 (8 * j)))] → W p l e rmX1_swapFirst s m args below meth c H locs 0 0 (MQ below (va_Qv Q (BU E) E.2.2.2.1) args s 0 0 E.2.2.2.1) (F0 m 0 ls []) := by
  obtain ⟨⟨hx, hb, hml, hown, hts⟩, hr, hlk, hK, hST, hN⟩ := id X
  intro I H locs ls h hp hl
  unfold wp_X1_swapFirst at h
  refine lv_aload_n hx hb dX1_swapFirst_0 rfl (lv_at hl 0 rfl) ?_
  refine f_X1_49 X hp hj dX1_swapFirst_1 ?_
  refine lv_iconst (v := (nI 2)) hx hb dX1_swapFirst_4 (by decide) ?_
  refine lv_icmp_lt (tgt := 34) hx hb dX1_swapFirst_5 (by decide) (fun c1 => ?_) (fun c1 => ?_)
  · have h := h.1 c1
    exact rt_v X hp h dX1_swapFirst_34
  · have h := h.2 c1
    refine lv_aload_n hx hb dX1_swapFirst_8 rfl (lv_at hl 0 rfl) ?_
    refine f_X1_30 X hp hj dX1_swapFirst_9 ?_
    refine lv_iconst (v := (nI 0)) hx hb dX1_swapFirst_12 (by decide) ?_
    have hv2 := h.1
    have h := h.2
    refine al_i X hp (ar_7 hj) hv2 dX1_swapFirst_13 ?_
    refine lv_istore_n (lv' := [(1, .int (I (8 * j + 7) (nI 0).toNatClampNeg)), (0, .ref (E.2.1 (8 * j)))]) hx hb dX1_swapFirst_14 rfl hl (by decide) rfl (fun ls hl => ?_)
    refine lv_aload_n hx hb dX1_swapFirst_15 rfl (lv_at hl 1 rfl) ?_
    refine f_X1_30 X hp hj dX1_swapFirst_16 ?_
    refine lv_iconst (v := (nI 0)) hx hb dX1_swapFirst_19 (by decide) ?_
    refine lv_aload_n hx hb dX1_swapFirst_20 rfl (lv_at hl 1 rfl) ?_
    refine f_X1_30 X hp hj dX1_swapFirst_21 ?_
    refine lv_iconst (v := (nI 1)) hx hb dX1_swapFirst_24 (by decide) ?_
    have hv3 := h.1
    have h := h.2
    refine al_i X hp (ar_7 hj) hv3 dX1_swapFirst_25 ?_
    have hv4 := h.1
    have h := h.2
    refine as_i X hp (ar_7 hj) hv4 dX1_swapFirst_26 (fun H locs hp => ?_)
    obtain ⟨I5, e6⟩ : ∃ y, y = su I (8 * j + 7) (nI 0).toNatClampNeg (I (8 * j + 7) (nI 1).toNatClampNeg) := ⟨_, rfl⟩
    have hp : PP E s H locs I5 := by rw [e6]; exact hp
    have h := h I5 e6
    refine lv_aload_n hx hb dX1_swapFirst_27 rfl (lv_at hl 1 rfl) ?_
    refine f_X1_30 X hp hj dX1_swapFirst_28 ?_
    refine lv_iconst (v := (nI 1)) hx hb dX1_swapFirst_31 (by decide) ?_
    refine lv_iload_n hx hb dX1_swapFirst_32 rfl (lv_at hl 0 rfl) ?_
    have hv7 := h.1
    have h := h.2
    refine as_i X hp (ar_7 hj) hv7 dX1_swapFirst_33 (fun H locs hp => ?_)
    obtain ⟨I8, e9⟩ : ∃ y, y = su I5 (8 * j + 7) (nI 1).toNatClampNeg (I (8 * j + 7) (nI 0).toNatClampNeg) := ⟨_, rfl⟩
    have hp : PP E s H locs I8 := by rw [e9]; exact hp
    have h := h I8 e9
    exact rt_v X hp h dX1_swapFirst_34
set_option maxRecDepth 100000 in
theorem C_X1_swapFirst {E : EE} {l : Launch} {j : Nat} (hj : j < 37) {I : II} {Q : II → Prop} (h : wp_X1_swapFirst j I Q) : Met l yX1_swapFirst (Cond.code yX1_swapFirst cX1_swapFirst 2 none :: lwT) rmX1_swapFirst (va_Pc [.ref (E.2.1 (8 * j))] (PU E I)) (va_Qv Q (BU E) E.2.2.2.1) 0 0 E.2.2.2.1 :=
  ofWalk [.ref (E.2.1 (8 * j))] (by decide) tw_c_X1_swapFirst (Nat.le_of_ble_eq_true rfl) (fun p e s m below meth c ls X hp hl => w_X1_swapFirst_0 X hj _ _ _ _ h hp hl)
abbrev rmX1_costTo : Room := { frames := 0, cells := 0, slots := 0, locals := 0 }
theorem vf_X1_costTo : VF yX1_costTo RX1 cX1_costTo 4 (some .int) 2 := ⟨tw_in_X1, tw_im_X1_costTo, tw_se_X1_costTo, tw_c_X1_costTo, by decide, by decide, by decide +kernel⟩
def wp_X1_costTo_35 (j : Nat) (Q : Int32 → II → Prop) (x1 : Int32) (x2 : Int32) (v0 : Int32) (I : II) : Prop := (vp_in x1 4 ∧ (((I (8 * j + 1) x1.toNatClampNeg) = (nI 2) → (¬ (nI 2) = 0 ∧ (Q ((v0 / (nI 2)) + (nI 1)) I))) ∧ ((I (8 * j + 1) x1.toNatClampNeg) = (nI 3) → (Q (v0 + (nI 2)) I)) ∧ ((I (8 * j + 1) x1.toNatClampNeg) = (nI 4) → (Q x2 I)) ∧ ((I (8 * j + 1) x1.toNatClampNeg) = (nI 5) → ((x2 ≤ (nI 9) → (Q x2 I)) ∧ (¬ x2 ≤ (nI 9) → (Q (nI 9) I)))) ∧ (¬ (I (8 * j + 1) x1.toNatClampNeg) = (nI 2) → ¬ (I (8 * j + 1) x1.toNatClampNeg) = (nI 3) → ¬ (I (8 * j + 1) x1.toNatClampNeg) = (nI 4) → ¬ (I (8 * j + 1) x1.toNatClampNeg) = (nI 5) → (Q v0 I))))
set_option maxHeartbeats 4000000 in
set_option maxRecDepth 100000 in
theorem w_X1_costTo_35 {E : EE} {p : Program} {l : Launch} {e : Env} {s : State} {m : MethodId} {args : Array Value} {below : List Frame} {meth : Method} {c : Code} {Q : Int32 → II → Prop} (X : CX E p s m args meth c cX1_costTo 4 (some .int) RX1) {j : Nat} (hj : j < 37) : ∀ (x1 : Int32) (x2 : Int32) (v0 : Int32) (I : II) (H : Heap) (locs : List Loc) (ls : Array Slot), wp_X1_costTo_35 j Q x1 x2 v0 I → PP E s H locs I → lv_has ls 4 [(0, .ref (E.2.1 (8 * j))), (1, .int x1), (2, .int x2)] → W p l e rmX1_costTo s m args below meth c H locs 0 0 (MQ below (va_Qi Q (BU E) E.2.2.2.1) args s 0 0 E.2.2.2.1) (F0 m 35 ls [.int v0]) := by
  obtain ⟨⟨hx, hb, hml, hown, hts⟩, hr, hlk, hK, hST, hN⟩ := id X
  intro x1 x2 v0 I H locs ls h hp hl
  unfold wp_X1_costTo_35 at h
  refine lv_istore_n (lv' := [(3, .int v0), (0, .ref (E.2.1 (8 * j))), (1, .int x1), (2, .int x2)]) hx hb dX1_costTo_35 rfl hl (by decide) rfl (fun ls hl => ?_)
  refine lv_aload_n hx hb dX1_costTo_36 rfl (lv_at hl 1 rfl) ?_
  refine f_X1_9 X hp hj dX1_costTo_37 ?_
  refine lv_iload_n hx hb dX1_costTo_40 rfl (lv_at hl 2 rfl) ?_
  have hv1 := h.1
  have h := h.2
  refine al_i X hp (ar_1 hj) hv1 dX1_costTo_41 ?_
  by_cases c2 : (I (8 * j + 1) x1.toNatClampNeg) = (nI 2)
  · have h := h.1 c2
    refine lv_tableIn (off := 30) (tgt := 72) hx hb dX1_costTo_42 (by rw [c2]; decide) (by rw [c2]; decide) (by rw [c2]; rfl) (by decide) ?_
    refine lv_iload_n hx hb dX1_costTo_72 rfl (lv_at hl 0 rfl) ?_
    refine lv_iconst (v := (nI 2)) hx hb dX1_costTo_73 (by decide) ?_
    have hz3 := h.1
    have h := h.2
    refine lv_idiv hx hb dX1_costTo_74 hz3 ?_
    refine lv_iconst (v := (nI 1)) hx hb dX1_costTo_75 (by decide) ?_
    refine lv_iadd hx hb dX1_costTo_76 ?_
    exact rt_i X hp h dX1_costTo_77
  have h := h.2
  by_cases c4 : (I (8 * j + 1) x1.toNatClampNeg) = (nI 3)
  · have h := h.1 c4
    refine lv_tableIn (off := 36) (tgt := 78) hx hb dX1_costTo_42 (by rw [c4]; decide) (by rw [c4]; decide) (by rw [c4]; rfl) (by decide) ?_
    refine lv_iload_n hx hb dX1_costTo_78 rfl (lv_at hl 0 rfl) ?_
    refine lv_iconst (v := (nI 2)) hx hb dX1_costTo_79 (by decide) ?_
    refine lv_iadd hx hb dX1_costTo_80 ?_
    exact rt_i X hp h dX1_costTo_81
  have h := h.2
  by_cases c5 : (I (8 * j + 1) x1.toNatClampNeg) = (nI 4)
  · have h := h.1 c5
    refine lv_tableIn (off := 40) (tgt := 82) hx hb dX1_costTo_42 (by rw [c5]; decide) (by rw [c5]; decide) (by rw [c5]; rfl) (by decide) ?_
    refine lv_iload_n hx hb dX1_costTo_82 rfl (lv_at hl 3 rfl) ?_
    exact rt_i X hp h dX1_costTo_83
  have h := h.2
  by_cases c6 : (I (8 * j + 1) x1.toNatClampNeg) = (nI 5)
  · have h := h.1 c6
    refine lv_tableIn (off := 42) (tgt := 84) hx hb dX1_costTo_42 (by rw [c6]; decide) (by rw [c6]; decide) (by rw [c6]; rfl) (by decide) ?_
    refine lv_iload_n hx hb dX1_costTo_84 rfl (lv_at hl 3 rfl) ?_
    refine lv_bipush (v := (nI 9)) hx hb dX1_costTo_85 (by decide) ?_
    refine lv_icmp_le (tgt := 95) hx hb dX1_costTo_87 (by decide) (fun c7 => ?_) (fun c7 => ?_)
    · have h := h.1 c7
      refine lv_iload_n hx hb dX1_costTo_95 rfl (lv_at hl 3 rfl) ?_
      exact rt_i X hp h dX1_costTo_96
    · have h := h.2 c7
      refine lv_bipush (v := (nI 9)) hx hb dX1_costTo_90 (by decide) ?_
      refine lv_goto (tgt := 96) hx hb dX1_costTo_92 (by decide) ?_
      exact rt_i X hp h dX1_costTo_96
  have h := h.2
  have h := h c2 c4 c5 c6
  have e8 : (I (8 * j + 1) x1.toNatClampNeg).toInt ≠ 2 := fun q => c2 (Int32.toInt_inj.mp (q.trans (by decide)))
  have e9 : (I (8 * j + 1) x1.toNatClampNeg).toInt ≠ 3 := fun q => c4 (Int32.toInt_inj.mp (q.trans (by decide)))
  have e10 : (I (8 * j + 1) x1.toNatClampNeg).toInt ≠ 4 := fun q => c5 (Int32.toInt_inj.mp (q.trans (by decide)))
  have e11 : (I (8 * j + 1) x1.toNatClampNeg).toInt ≠ 5 := fun q => c6 (Int32.toInt_inj.mp (q.trans (by decide)))
  refine lv_tableOut (tgt := 97) hx hb dX1_costTo_42 (by omega) (by decide) ?_
  refine lv_iload_n hx hb dX1_costTo_97 rfl (lv_at hl 0 rfl) ?_
  exact rt_i X hp h dX1_costTo_98
def wp_X1_costTo (j : Nat) (x1 : Int32) (x2 : Int32) (I : II) (Q : Int32 → II → Prop) : Prop := ((x1 < 0 → (Q (nI 0) I)) ∧ (¬ x1 < 0 → ((x1 < (nI 4) → (vp_in x1 4 ∧ (((x2 - (I (8 * j + 3) x1.toNatClampNeg)) ≤ (nI 1) → (wp_X1_costTo_35 j Q x1 x2 (nI 1) I)) ∧ (¬ (x2 - (I (8 * j + 3) x1.toNatClampNeg)) ≤ (nI 1) → (vp_in x1 4 ∧ (wp_X1_costTo_35 j Q x1 x2 (x2 - (I (8 * j + 3) x1.toNatClampNeg)) I)))))) ∧ (¬ x1 < (nI 4) → (Q (nI 0) I)))))
set_option maxHeartbeats 4000000 in
set_option maxRecDepth 100000 in
theorem w_X1_costTo_0 {E : EE} {p : Program} {l : Launch} {e : Env} {s : State} {m : MethodId} {args : Array Value} {below : List Frame} {meth : Method} {c : Code} {Q : Int32 → II → Prop} (X : CX E p s m args meth c cX1_costTo 4 (some .int) RX1) {j : Nat} (hj : j < 37) : ∀ (x1 : Int32) (x2 : Int32) (I : II) (H : Heap) (locs : List Loc) (ls : Array Slot), wp_X1_costTo j x1 x2 I Q → PP E s H locs I → lv_has ls 4 [(0, .ref (E.2.1 (8 * j))), (1, .int x1), (2, .int x2)] → W p l e rmX1_costTo s m args below meth c H locs 0 0 (MQ below (va_Qi Q (BU E) E.2.2.2.1) args s 0 0 E.2.2.2.1) (F0 m 0 ls []) := by
  obtain ⟨⟨hx, hb, hml, hown, hts⟩, hr, hlk, hK, hST, hN⟩ := id X
  intro x1 x2 I H locs ls h hp hl
  unfold wp_X1_costTo at h
  refine lv_iload_n hx hb dX1_costTo_0 rfl (lv_at hl 1 rfl) ?_
  refine lv_if_lt (tgt := 9) hx hb dX1_costTo_1 (by decide) (fun c1 => ?_) (fun c1 => ?_)
  · have h := h.1 c1
    refine lv_iconst (v := (nI 0)) hx hb dX1_costTo_9 (by decide) ?_
    exact rt_i X hp h dX1_costTo_10
  · have h := h.2 c1
    refine lv_iload_n hx hb dX1_costTo_4 rfl (lv_at hl 1 rfl) ?_
    refine lv_iconst (v := (nI 4)) hx hb dX1_costTo_5 (by decide) ?_
    refine lv_icmp_lt (tgt := 11) hx hb dX1_costTo_6 (by decide) (fun c2 => ?_) (fun c2 => ?_)
    · have h := h.1 c2
      refine lv_iload_n hx hb dX1_costTo_11 rfl (lv_at hl 2 rfl) ?_
      refine lv_aload_n hx hb dX1_costTo_12 rfl (lv_at hl 0 rfl) ?_
      refine f_X1_18 X hp hj dX1_costTo_13 ?_
      refine lv_iload_n hx hb dX1_costTo_16 rfl (lv_at hl 1 rfl) ?_
      have hv3 := h.1
      have h := h.2
      refine al_i X hp (ar_3 hj) hv3 dX1_costTo_17 ?_
      refine lv_isub hx hb dX1_costTo_18 ?_
      refine lv_iconst (v := (nI 1)) hx hb dX1_costTo_19 (by decide) ?_
      refine lv_icmp_le (tgt := 34) hx hb dX1_costTo_20 (by decide) (fun c4 => ?_) (fun c4 => ?_)
      · have h := h.1 c4
        refine lv_iconst (v := (nI 1)) hx hb dX1_costTo_34 (by decide) ?_
        exact w_X1_costTo_35 X hj  _ _ _ _ _ _ _ h hp (lv_sub hl [0, 1, 2] rfl)
      · have h := h.2 c4
        refine lv_iload_n hx hb dX1_costTo_23 rfl (lv_at hl 2 rfl) ?_
        refine lv_aload_n hx hb dX1_costTo_24 rfl (lv_at hl 0 rfl) ?_
        refine f_X1_18 X hp hj dX1_costTo_25 ?_
        refine lv_iload_n hx hb dX1_costTo_28 rfl (lv_at hl 1 rfl) ?_
        have hv5 := h.1
        have h := h.2
        refine al_i X hp (ar_3 hj) hv5 dX1_costTo_29 ?_
        refine lv_isub hx hb dX1_costTo_30 ?_
        refine lv_goto (tgt := 35) hx hb dX1_costTo_31 (by decide) ?_
        exact w_X1_costTo_35 X hj  _ _ _ _ _ _ _ h hp (lv_sub hl [0, 1, 2] rfl)
    · have h := h.2 c2
      refine lv_iconst (v := (nI 0)) hx hb dX1_costTo_9 (by decide) ?_
      exact rt_i X hp h dX1_costTo_10
set_option maxRecDepth 100000 in
theorem C_X1_costTo {E : EE} {l : Launch} {j : Nat} (hj : j < 37) {x1 : Int32} {x2 : Int32} {I : II} {Q : Int32 → II → Prop} (h : wp_X1_costTo j x1 x2 I Q) : Met l yX1_costTo (Cond.code yX1_costTo cX1_costTo 4 (some .int) :: lwT) rmX1_costTo (va_Pc [.ref (E.2.1 (8 * j)), .int x1, .int x2] (PU E I)) (va_Qi Q (BU E) E.2.2.2.1) 0 0 E.2.2.2.1 :=
  ofWalk [.ref (E.2.1 (8 * j)), .int x1, .int x2] (by decide) tw_c_X1_costTo (Nat.le_of_ble_eq_true rfl) (fun p e s m below meth c ls X hp hl => w_X1_costTo_0 X hj _ _ _ _ _ _ h hp hl)
abbrev rmX1_canPay : Room := { frames := 1, cells := 0, slots := 0, locals := 23 }
theorem vf_X1_canPay : VF yX1_canPay RX1 cX1_canPay 3 (some .boolean) 2 := ⟨tw_in_X1, tw_im_X1_canPay, tw_se_X1_canPay, tw_c_X1_canPay, by decide, by decide, by decide +kernel⟩
def wp_X1_canPay (j : Nat) (x1 : Int32) (x2 : Int32) (I : II) (Q : Int32 → II → Prop) : Prop := (wp_X1_hasTeller j x1 I (fun r2 I1 => ((r2 = 0 → (Q (nI 0) I1)) ∧ (¬ r2 = 0 → (vp_in x1 4 ∧ (wp_X1_costTo j x1 x2 I1 (fun r6 I5 => ((((I1 (8 * j + 4) x1.toNatClampNeg) - r6) < (I5 (8 * j) 0) → (Q (nI 0) I5)) ∧ (¬ ((I1 (8 * j + 4) x1.toNatClampNeg) - r6) < (I5 (8 * j) 0) → (Q (nI 1) I5))))))))))
set_option maxHeartbeats 4000000 in
set_option maxRecDepth 100000 in
theorem w_X1_canPay_0 {E : EE} {p : Program} {l : Launch} {e : Env} {s : State} {m : MethodId} {args : Array Value} {below : List Frame} {meth : Method} {c : Code} {Q : Int32 → II → Prop} (X : CX E p s m args meth c cX1_canPay 3 (some .boolean) RX1) {j : Nat} (hj : j < 37) : ∀ (x1 : Int32) (x2 : Int32) (I : II) (H : Heap) (locs : List Loc) (ls : Array Slot), wp_X1_canPay j x1 x2 I Q → PP E s H locs I → lv_has ls 3 [(0, .ref (E.2.1 (8 * j))), (1, .int x1), (2, .int x2)] → W p l e rmX1_canPay s m args below meth c H locs 0 0 (MQ below (va_Qi Q (BU E) E.2.2.2.1) args s 0 0 E.2.2.2.1) (F0 m 0 ls []) := by
  obtain ⟨⟨hx, hb, hml, hown, hts⟩, hr, hlk, hK, hST, hN⟩ := id X
  intro x1 x2 I H locs ls h hp hl
  unfold wp_X1_canPay at h
  refine lv_aload_n hx hb dX1_canPay_0 rfl (lv_at hl 0 rfl) ?_
  refine lv_iload_n hx hb dX1_canPay_1 rfl (lv_at hl 1 rfl) ?_
  refine ki (kV (As := [.int x1]) (rest := []) X hp (C_X1_hasTeller hj h) tw_ml_X1_77 vf_X1_hasTeller ⟨rfl, rfl, Nat.le_of_ble_eq_true rfl, Nat.le_of_ble_eq_true rfl⟩ (pr_rcvb X hp hj) rfl hl.1 rfl (Nat.le_of_ble_eq_true rfl) dX1_canPay_2) hp (fun r2 I1 H locs h hp => ?_)
  refine lv_if_eq (tgt := 32) hx hb dX1_canPay_5 (by decide) (fun c3 => ?_) (fun c3 => ?_)
  · have h := h.1 c3
    refine lv_iconst (v := (nI 0)) hx hb dX1_canPay_32 (by decide) ?_
    exact rt_z X hp ⟨Or.inl rfl, h⟩ dX1_canPay_33
  · have h := h.2 c3
    refine lv_aload_n hx hb dX1_canPay_8 rfl (lv_at hl 0 rfl) ?_
    refine f_X1_21 X hp hj dX1_canPay_9 ?_
    refine lv_iload_n hx hb dX1_canPay_12 rfl (lv_at hl 1 rfl) ?_
    have hv4 := h.1
    have h := h.2
    refine al_i X hp (ar_4 hj) hv4 dX1_canPay_13 ?_
    refine lv_aload_n hx hb dX1_canPay_14 rfl (lv_at hl 0 rfl) ?_
    refine lv_iload_n hx hb dX1_canPay_15 rfl (lv_at hl 1 rfl) ?_
    refine lv_iload_n hx hb dX1_canPay_16 rfl (lv_at hl 2 rfl) ?_
    refine ki (kV (As := [.int x1, .int x2]) (rest := [.int (I1 (8 * j + 4) x1.toNatClampNeg)]) X hp (C_X1_costTo hj h) tw_ml_X1_81 vf_X1_costTo ⟨rfl, rfl, Nat.le_of_ble_eq_true rfl, Nat.le_of_ble_eq_true rfl⟩ (pr_rcvb X hp hj) rfl hl.1 rfl (Nat.le_of_ble_eq_true rfl) dX1_canPay_17) hp (fun r6 I5 H locs h hp => ?_)
    refine lv_isub hx hb dX1_canPay_20 ?_
    refine lv_aload_n hx hb dX1_canPay_21 rfl (lv_at hl 0 rfl) ?_
    refine f_X1_58 X hp hj dX1_canPay_22 ?_
    refine lv_icmp_lt (tgt := 32) hx hb dX1_canPay_25 (by decide) (fun c7 => ?_) (fun c7 => ?_)
    · have h := h.1 c7
      refine lv_iconst (v := (nI 0)) hx hb dX1_canPay_32 (by decide) ?_
      exact rt_z X hp ⟨Or.inl rfl, h⟩ dX1_canPay_33
    · have h := h.2 c7
      refine lv_iconst (v := (nI 1)) hx hb dX1_canPay_28 (by decide) ?_
      refine lv_goto (tgt := 33) hx hb dX1_canPay_29 (by decide) ?_
      exact rt_z X hp ⟨Or.inr rfl, h⟩ dX1_canPay_33
set_option maxRecDepth 100000 in
theorem C_X1_canPay {E : EE} {l : Launch} {j : Nat} (hj : j < 37) {x1 : Int32} {x2 : Int32} {I : II} {Q : Int32 → II → Prop} (h : wp_X1_canPay j x1 x2 I Q) : Met l yX1_canPay (Cond.code yX1_canPay cX1_canPay 3 (some .boolean) :: lwT) rmX1_canPay (va_Pc [.ref (E.2.1 (8 * j)), .int x1, .int x2] (PU E I)) (va_Qi Q (BU E) E.2.2.2.1) 0 0 E.2.2.2.1 :=
  ofWalk [.ref (E.2.1 (8 * j)), .int x1, .int x2] (by decide) tw_c_X1_canPay (Nat.le_of_ble_eq_true rfl) (fun p e s m below meth c ls X hp hl => w_X1_canPay_0 X hj _ _ _ _ _ _ h hp hl)
abbrev rmX1_drawerOf : Room := { frames := 1, cells := 0, slots := 0, locals := 23 }
theorem vf_X1_drawerOf : VF yX1_drawerOf RX1 cX1_drawerOf 5 (some .int) 1 := ⟨tw_in_X1, tw_im_X1_drawerOf, tw_se_X1_drawerOf, tw_c_X1_drawerOf, by decide, by decide, by decide +kernel⟩
def wp_X1_drawerOf_81 (j : Nat) (Q : Int32 → II → Prop) (k5 : Int32 → Int32 → Int32 → II → Prop) (x1 : Int32) (x2 : Int32) (x3 : Int32) (I : II) : Prop := (k5 x1 x2 (x3 + (nI 1)) I)
set_option maxHeartbeats 4000000 in
set_option maxRecDepth 100000 in
theorem w_X1_drawerOf_81 {E : EE} {p : Program} {l : Launch} {e : Env} {s : State} {m : MethodId} {args : Array Value} {below : List Frame} {meth : Method} {c : Code} {Q : Int32 → II → Prop} {k5 : Int32 → Int32 → Int32 → II → Prop} (X : CX E p s m args meth c cX1_drawerOf 5 (some .int) RX1) {j : Nat} (hj : j < 37) (K5 : ∀ (x1 : Int32) (x2 : Int32) (x3 : Int32) (I : II) (H : Heap) (locs : List Loc) (ls : Array Slot), k5 x1 x2 x3 I → PP E s H locs I → lv_has ls 5 [(0, .ref (E.2.1 (8 * j))), (1, .int x1), (2, .int x2), (3, .int x3)] → W p l e rmX1_drawerOf s m args below meth c H locs 0 0 (MQ below (va_Qi Q (BU E) E.2.2.2.1) args s 0 0 E.2.2.2.1) (F0 m 5 ls [])) : ∀ (x1 : Int32) (x2 : Int32) (x3 : Int32) (I : II) (H : Heap) (locs : List Loc) (ls : Array Slot), wp_X1_drawerOf_81 j Q k5 x1 x2 x3 I → PP E s H locs I → lv_has ls 5 [(0, .ref (E.2.1 (8 * j))), (1, .int x1), (2, .int x2), (3, .int x3)] → W p l e rmX1_drawerOf s m args below meth c H locs 0 0 (MQ below (va_Qi Q (BU E) E.2.2.2.1) args s 0 0 E.2.2.2.1) (F0 m 81 ls []) := by
  obtain ⟨⟨hx, hb, hml, hown, hts⟩, hr, hlk, hK, hST, hN⟩ := id X
  intro x1 x2 x3 I H locs ls h hp hl
  unfold wp_X1_drawerOf_81 at h
  refine lv_iinc (v := (x3 + (nI 1))) (lv' := [(3, .int (x3 + (nI 1))), (0, .ref (E.2.1 (8 * j))), (1, .int x1), (2, .int x2)]) hx hb dX1_drawerOf_81 hl (k := 3) rfl rfl (by decide) rfl (fun ls hl => ?_)
  refine lv_goto (tgt := 5) hx hb dX1_drawerOf_84 (by decide) ?_
  exact K5 _ _ _ _ _ _ _ h hp (lv_sub hl [1, 2, 3, 0] rfl)
def wp_X1_drawerOf_44 (j : Nat) (Q : Int32 → II → Prop) (k5 : Int32 → Int32 → Int32 → II → Prop) (x1 : Int32) (x2 : Int32) (x3 : Int32) (v0 : Int32) (I : II) : Prop := ((v0 = 0 → (wp_X1_drawerOf_81 j Q k5 x1 x2 x3 I)) ∧ (¬ v0 = 0 → (wp_X1_isOpen j x3 I (fun r3 I2 => ((r3 = 0 → (wp_X1_drawerOf_81 j Q k5 x1 x2 x3 I2)) ∧ (¬ r3 = 0 → (vp_in x3 4 ∧ (wp_X1_costTo j x3 x1 I2 (fun r7 I6 => ((((I2 (8 * j + 4) x3.toNatClampNeg) - r7) < (I6 (8 * j) 0) → (wp_X1_drawerOf_81 j Q k5 x1 x2 x3 I6)) ∧ (¬ ((I2 (8 * j + 4) x3.toNatClampNeg) - r7) < (I6 (8 * j) 0) → (wp_X1_drawerOf_81 j Q k5 x1 x3 x3 I6))))))))))))
set_option maxHeartbeats 4000000 in
set_option maxRecDepth 100000 in
theorem w_X1_drawerOf_44 {E : EE} {p : Program} {l : Launch} {e : Env} {s : State} {m : MethodId} {args : Array Value} {below : List Frame} {meth : Method} {c : Code} {Q : Int32 → II → Prop} {k5 : Int32 → Int32 → Int32 → II → Prop} (X : CX E p s m args meth c cX1_drawerOf 5 (some .int) RX1) {j : Nat} (hj : j < 37) (K5 : ∀ (x1 : Int32) (x2 : Int32) (x3 : Int32) (I : II) (H : Heap) (locs : List Loc) (ls : Array Slot), k5 x1 x2 x3 I → PP E s H locs I → lv_has ls 5 [(0, .ref (E.2.1 (8 * j))), (1, .int x1), (2, .int x2), (3, .int x3)] → W p l e rmX1_drawerOf s m args below meth c H locs 0 0 (MQ below (va_Qi Q (BU E) E.2.2.2.1) args s 0 0 E.2.2.2.1) (F0 m 5 ls [])) : ∀ (x1 : Int32) (x2 : Int32) (x3 : Int32) (v0 : Int32) (I : II) (H : Heap) (locs : List Loc) (ls : Array Slot), wp_X1_drawerOf_44 j Q k5 x1 x2 x3 v0 I → PP E s H locs I → lv_has ls 5 [(0, .ref (E.2.1 (8 * j))), (1, .int x1), (2, .int x2), (3, .int x3)] → W p l e rmX1_drawerOf s m args below meth c H locs 0 0 (MQ below (va_Qi Q (BU E) E.2.2.2.1) args s 0 0 E.2.2.2.1) (F0 m 44 ls [.int v0]) := by
  obtain ⟨⟨hx, hb, hml, hown, hts⟩, hr, hlk, hK, hST, hN⟩ := id X
  intro x1 x2 x3 v0 I H locs ls h hp hl
  unfold wp_X1_drawerOf_44 at h
  refine lv_istore (lv' := [(4, .int v0), (0, .ref (E.2.1 (8 * j))), (1, .int x1), (2, .int x2), (3, .int x3)]) hx hb dX1_drawerOf_44 hl (by decide) rfl (fun ls hl => ?_)
  refine lv_iload hx hb dX1_drawerOf_46 (lv_at hl 0 rfl) ?_
  refine lv_if_eq (tgt := 81) hx hb dX1_drawerOf_48 (by decide) (fun c1 => ?_) (fun c1 => ?_)
  · have h := h.1 c1
    exact w_X1_drawerOf_81 X hj K5 _ _ _ _ _ _ _ h hp (lv_sub hl [1, 2, 3, 4] rfl)
  · have h := h.2 c1
    refine lv_aload_n hx hb dX1_drawerOf_51 rfl (lv_at hl 1 rfl) ?_
    refine lv_iload_n hx hb dX1_drawerOf_52 rfl (lv_at hl 4 rfl) ?_
    refine ki (kV (As := [.int x3]) (rest := []) X hp (C_X1_isOpen hj h) tw_ml_X1_85 vf_X1_isOpen ⟨rfl, rfl, Nat.le_of_ble_eq_true rfl, Nat.le_of_ble_eq_true rfl⟩ (pr_rcvb X hp hj) rfl hl.1 rfl (Nat.le_of_ble_eq_true rfl) dX1_drawerOf_53) hp (fun r3 I2 H locs h hp => ?_)
    refine lv_if_eq (tgt := 81) hx hb dX1_drawerOf_56 (by decide) (fun c4 => ?_) (fun c4 => ?_)
    · have h := h.1 c4
      exact w_X1_drawerOf_81 X hj K5 _ _ _ _ _ _ _ h hp (lv_sub hl [1, 2, 3, 4] rfl)
    · have h := h.2 c4
      refine lv_aload_n hx hb dX1_drawerOf_59 rfl (lv_at hl 1 rfl) ?_
      refine f_X1_21 X hp hj dX1_drawerOf_60 ?_
      refine lv_iload_n hx hb dX1_drawerOf_63 rfl (lv_at hl 4 rfl) ?_
      have hv5 := h.1
      have h := h.2
      refine al_i X hp (ar_4 hj) hv5 dX1_drawerOf_64 ?_
      refine lv_aload_n hx hb dX1_drawerOf_65 rfl (lv_at hl 1 rfl) ?_
      refine lv_iload_n hx hb dX1_drawerOf_66 rfl (lv_at hl 4 rfl) ?_
      refine lv_iload_n hx hb dX1_drawerOf_67 rfl (lv_at hl 2 rfl) ?_
      refine ki (kV (As := [.int x3, .int x1]) (rest := [.int (I2 (8 * j + 4) x3.toNatClampNeg)]) X hp (C_X1_costTo hj h) tw_ml_X1_81 vf_X1_costTo ⟨rfl, rfl, Nat.le_of_ble_eq_true rfl, Nat.le_of_ble_eq_true rfl⟩ (pr_rcvb X hp hj) rfl hl.1 rfl (Nat.le_of_ble_eq_true rfl) dX1_drawerOf_68) hp (fun r7 I6 H locs h hp => ?_)
      refine lv_isub hx hb dX1_drawerOf_71 ?_
      refine lv_aload_n hx hb dX1_drawerOf_72 rfl (lv_at hl 1 rfl) ?_
      refine f_X1_58 X hp hj dX1_drawerOf_73 ?_
      refine lv_icmp_lt (tgt := 81) hx hb dX1_drawerOf_76 (by decide) (fun c8 => ?_) (fun c8 => ?_)
      · have h := h.1 c8
        exact w_X1_drawerOf_81 X hj K5 _ _ _ _ _ _ _ h hp (lv_sub hl [1, 2, 3, 4] rfl)
      · have h := h.2 c8
        refine lv_iload_n hx hb dX1_drawerOf_79 rfl (lv_at hl 4 rfl) ?_
        refine lv_istore_n (lv' := [(2, .int x3), (4, .int v0), (0, .ref (E.2.1 (8 * j))), (1, .int x1), (3, .int x3)]) hx hb dX1_drawerOf_80 rfl hl (by decide) rfl (fun ls hl => ?_)
        exact w_X1_drawerOf_81 X hj K5 _ _ _ _ _ _ _ h hp (lv_sub hl [2, 3, 0, 4] rfl)
def wp_X1_drawerOf_39 (j : Nat) (Q : Int32 → II → Prop) (k5 : Int32 → Int32 → Int32 → II → Prop) (x1 : Int32) (x2 : Int32) (x3 : Int32) (I : II) : Prop := (wp_X1_drawerOf_44 j Q k5 x1 x2 x3 (nI 1) I)
set_option maxHeartbeats 4000000 in
set_option maxRecDepth 100000 in
theorem w_X1_drawerOf_39 {E : EE} {p : Program} {l : Launch} {e : Env} {s : State} {m : MethodId} {args : Array Value} {below : List Frame} {meth : Method} {c : Code} {Q : Int32 → II → Prop} {k5 : Int32 → Int32 → Int32 → II → Prop} (X : CX E p s m args meth c cX1_drawerOf 5 (some .int) RX1) {j : Nat} (hj : j < 37) (K5 : ∀ (x1 : Int32) (x2 : Int32) (x3 : Int32) (I : II) (H : Heap) (locs : List Loc) (ls : Array Slot), k5 x1 x2 x3 I → PP E s H locs I → lv_has ls 5 [(0, .ref (E.2.1 (8 * j))), (1, .int x1), (2, .int x2), (3, .int x3)] → W p l e rmX1_drawerOf s m args below meth c H locs 0 0 (MQ below (va_Qi Q (BU E) E.2.2.2.1) args s 0 0 E.2.2.2.1) (F0 m 5 ls [])) : ∀ (x1 : Int32) (x2 : Int32) (x3 : Int32) (I : II) (H : Heap) (locs : List Loc) (ls : Array Slot), wp_X1_drawerOf_39 j Q k5 x1 x2 x3 I → PP E s H locs I → lv_has ls 5 [(0, .ref (E.2.1 (8 * j))), (1, .int x1), (2, .int x2), (3, .int x3)] → W p l e rmX1_drawerOf s m args below meth c H locs 0 0 (MQ below (va_Qi Q (BU E) E.2.2.2.1) args s 0 0 E.2.2.2.1) (F0 m 39 ls []) := by
  obtain ⟨⟨hx, hb, hml, hown, hts⟩, hr, hlk, hK, hST, hN⟩ := id X
  intro x1 x2 x3 I H locs ls h hp hl
  unfold wp_X1_drawerOf_39 at h
  refine lv_iconst (v := (nI 1)) hx hb dX1_drawerOf_39 (by decide) ?_
  refine lv_goto (tgt := 44) hx hb dX1_drawerOf_40 (by decide) ?_
  exact w_X1_drawerOf_44 X hj K5 _ _ _ _ _ _ _ _ h hp (lv_sub hl [0, 1, 2, 3] rfl)
def wp_X1_drawerOf_5 (j : Nat) (Q : Int32 → II → Prop) (k87 : Int32 → II → Prop) : Nat → Int32 → Int32 → Int32 → II → Prop
  | 0, _, _, _, _ => False
  | n + 1, x1, x2, x3, I => (((I (8 * j) 2) ≤ x3 → (k87 x2 I)) ∧ (¬ (I (8 * j) 2) ≤ x3 → (((nI 4) ≤ x3 → (k87 x2 I)) ∧ (¬ (nI 4) ≤ x3 → ((x2 = (-nI 1000000) → (wp_X1_drawerOf_39 j Q (fun x1 x2 x3 I => wp_X1_drawerOf_5 j Q k87 n x1 x2 x3 I) x1 x2 x3 I)) ∧ (¬ x2 = (-nI 1000000) → (vp_in x3 4 ∧ (vp_in x2 4 ∧ (((I (8 * j + 4) x3.toNatClampNeg) ≤ (I (8 * j + 4) x2.toNatClampNeg) → (wp_X1_drawerOf_44 j Q (fun x1 x2 x3 I => wp_X1_drawerOf_5 j Q k87 n x1 x2 x3 I) x1 x2 x3 (nI 0) I)) ∧ (¬ (I (8 * j + 4) x3.toNatClampNeg) ≤ (I (8 * j + 4) x2.toNatClampNeg) → (wp_X1_drawerOf_39 j Q (fun x1 x2 x3 I => wp_X1_drawerOf_5 j Q k87 n x1 x2 x3 I) x1 x2 x3 I)))))))))))
set_option maxHeartbeats 4000000 in
set_option maxRecDepth 100000 in
theorem w_X1_drawerOf_5 {E : EE} {p : Program} {l : Launch} {e : Env} {s : State} {m : MethodId} {args : Array Value} {below : List Frame} {meth : Method} {c : Code} {Q : Int32 → II → Prop} {k87 : Int32 → II → Prop} (X : CX E p s m args meth c cX1_drawerOf 5 (some .int) RX1) {j : Nat} (hj : j < 37) (K87 : ∀ (x2 : Int32) (I : II) (H : Heap) (locs : List Loc) (ls : Array Slot), k87 x2 I → PP E s H locs I → lv_has ls 5 [(2, .int x2)] → W p l e rmX1_drawerOf s m args below meth c H locs 0 0 (MQ below (va_Qi Q (BU E) E.2.2.2.1) args s 0 0 E.2.2.2.1) (F0 m 87 ls [])) : ∀ (n : Nat) (x1 : Int32) (x2 : Int32) (x3 : Int32) (I : II) (H : Heap) (locs : List Loc) (ls : Array Slot), wp_X1_drawerOf_5 j Q k87 n x1 x2 x3 I → PP E s H locs I → lv_has ls 5 [(0, .ref (E.2.1 (8 * j))), (1, .int x1), (2, .int x2), (3, .int x3)] → W p l e rmX1_drawerOf s m args below meth c H locs 0 0 (MQ below (va_Qi Q (BU E) E.2.2.2.1) args s 0 0 E.2.2.2.1) (F0 m 5 ls []) := by
  obtain ⟨⟨hx, hb, hml, hown, hts⟩, hr, hlk, hK, hST, hN⟩ := id X
  intro n
  induction n with
  | zero =>
    intro x1 x2 x3 I H locs ls h hp hl
    exact False.elim h
  | succ n ih =>
    intro x1 x2 x3 I H locs ls h hp hl
    rw [wp_X1_drawerOf_5.eq_2] at h
    refine lv_iload_n hx hb dX1_drawerOf_5 rfl (lv_at hl 3 rfl) ?_
    refine lv_aload_n hx hb dX1_drawerOf_6 rfl (lv_at hl 0 rfl) ?_
    refine f_X1_33 X hp hj dX1_drawerOf_7 ?_
    refine lv_icmp_ge (tgt := 87) hx hb dX1_drawerOf_10 (by decide) (fun c1 => ?_) (fun c1 => ?_)
    · have h := h.1 c1
      exact K87 _ _ _ _ _ h hp (lv_sub hl [2] rfl)
    · have h := h.2 c1
      refine lv_iload_n hx hb dX1_drawerOf_13 rfl (lv_at hl 3 rfl) ?_
      refine lv_iconst (v := (nI 4)) hx hb dX1_drawerOf_14 (by decide) ?_
      refine lv_icmp_ge (tgt := 87) hx hb dX1_drawerOf_15 (by decide) (fun c2 => ?_) (fun c2 => ?_)
      · have h := h.1 c2
        exact K87 _ _ _ _ _ h hp (lv_sub hl [2] rfl)
      · have h := h.2 c2
        refine lv_iload_n hx hb dX1_drawerOf_18 rfl (lv_at hl 2 rfl) ?_
        refine lv_ldc (v := (-nI 1000000)) hx hb hown (hts _ tw_k_X1_68) dX1_drawerOf_19 ?_
        refine lv_icmp_eq (tgt := 39) hx hb dX1_drawerOf_21 (by decide) (fun c3 => ?_) (fun c3 => ?_)
        · have h := h.1 c3
          exact w_X1_drawerOf_39 X hj ih _ _ _ _ _ _ _ h hp (lv_sub hl [0, 1, 2, 3] rfl)
        · have h := h.2 c3
          refine lv_aload_n hx hb dX1_drawerOf_24 rfl (lv_at hl 0 rfl) ?_
          refine f_X1_21 X hp hj dX1_drawerOf_25 ?_
          refine lv_iload_n hx hb dX1_drawerOf_28 rfl (lv_at hl 3 rfl) ?_
          have hv4 := h.1
          have h := h.2
          refine al_i X hp (ar_4 hj) hv4 dX1_drawerOf_29 ?_
          refine lv_aload_n hx hb dX1_drawerOf_30 rfl (lv_at hl 0 rfl) ?_
          refine f_X1_21 X hp hj dX1_drawerOf_31 ?_
          refine lv_iload_n hx hb dX1_drawerOf_34 rfl (lv_at hl 2 rfl) ?_
          have hv5 := h.1
          have h := h.2
          refine al_i X hp (ar_4 hj) hv5 dX1_drawerOf_35 ?_
          refine lv_icmp_le (tgt := 43) hx hb dX1_drawerOf_36 (by decide) (fun c6 => ?_) (fun c6 => ?_)
          · have h := h.1 c6
            refine lv_iconst (v := (nI 0)) hx hb dX1_drawerOf_43 (by decide) ?_
            exact w_X1_drawerOf_44 X hj ih _ _ _ _ _ _ _ _ h hp (lv_sub hl [0, 1, 2, 3] rfl)
          · have h := h.2 c6
            exact w_X1_drawerOf_39 X hj ih _ _ _ _ _ _ _ h hp (lv_sub hl [0, 1, 2, 3] rfl)
def wp_X1_drawerOf (j : Nat) (x1 : Int32) (I : II) (Q : Int32 → II → Prop) : Prop := (∃ n51, wp_X1_drawerOf_5 j Q (fun x2 I => (Q x2 I)) n51 x1 (-nI 1000000) (nI 0) I)
set_option maxHeartbeats 4000000 in
set_option maxRecDepth 100000 in
theorem w_X1_drawerOf_0 {E : EE} {p : Program} {l : Launch} {e : Env} {s : State} {m : MethodId} {args : Array Value} {below : List Frame} {meth : Method} {c : Code} {Q : Int32 → II → Prop} (X : CX E p s m args meth c cX1_drawerOf 5 (some .int) RX1) {j : Nat} (hj : j < 37) : ∀ (x1 : Int32) (I : II) (H : Heap) (locs : List Loc) (ls : Array Slot), wp_X1_drawerOf j x1 I Q → PP E s H locs I → lv_has ls 5 [(0, .ref (E.2.1 (8 * j))), (1, .int x1)] → W p l e rmX1_drawerOf s m args below meth c H locs 0 0 (MQ below (va_Qi Q (BU E) E.2.2.2.1) args s 0 0 E.2.2.2.1) (F0 m 0 ls []) := by
  obtain ⟨⟨hx, hb, hml, hown, hts⟩, hr, hlk, hK, hST, hN⟩ := id X
  intro x1 I H locs ls h hp hl
  unfold wp_X1_drawerOf at h
  refine lv_ldc (v := (-nI 1000000)) hx hb hown (hts _ tw_k_X1_68) dX1_drawerOf_0 ?_
  refine lv_istore_n (lv' := [(2, .int (-nI 1000000)), (0, .ref (E.2.1 (8 * j))), (1, .int x1)]) hx hb dX1_drawerOf_2 rfl hl (by decide) rfl (fun ls hl => ?_)
  refine lv_iconst (v := (nI 0)) hx hb dX1_drawerOf_3 (by decide) ?_
  refine lv_istore_n (lv' := [(3, .int (nI 0)), (2, .int (-nI 1000000)), (0, .ref (E.2.1 (8 * j))), (1, .int x1)]) hx hb dX1_drawerOf_4 rfl hl (by decide) rfl (fun ls hl => ?_)
  obtain ⟨n51, h⟩ := h
  refine w_X1_drawerOf_5 X hj ?_ n51 _ _ _ _ _ _ _ h hp (lv_sub hl [2, 3, 1, 0] rfl)
  · intro x2 I H locs ls h hp hl
    refine lv_iload_n hx hb dX1_drawerOf_87 rfl (lv_at hl 0 rfl) ?_
    exact rt_i X hp h dX1_drawerOf_88
set_option maxRecDepth 100000 in
theorem C_X1_drawerOf {E : EE} {l : Launch} {j : Nat} (hj : j < 37) {x1 : Int32} {I : II} {Q : Int32 → II → Prop} (h : wp_X1_drawerOf j x1 I Q) : Met l yX1_drawerOf (Cond.code yX1_drawerOf cX1_drawerOf 5 (some .int) :: lwT) rmX1_drawerOf (va_Pc [.ref (E.2.1 (8 * j)), .int x1] (PU E I)) (va_Qi Q (BU E) E.2.2.2.1) 0 0 E.2.2.2.1 :=
  ofWalk [.ref (E.2.1 (8 * j)), .int x1] (by decide) tw_c_X1_drawerOf (Nat.le_of_ble_eq_true rfl) (fun p e s m below meth c ls X hp hl => w_X1_drawerOf_0 X hj _ _ _ _ _ h hp hl)
abbrev rmX1_poorestOpen : Room := { frames := 1, cells := 0, slots := 0, locals := 21 }
theorem vf_X1_poorestOpen : VF yX1_poorestOpen RX1 cX1_poorestOpen 3 (some .int) 0 := ⟨tw_in_X1, tw_im_X1_poorestOpen, tw_se_X1_poorestOpen, tw_c_X1_poorestOpen, by decide, by decide, by decide +kernel⟩
def wp_X1_poorestOpen_49 (j : Nat) (Q : Int32 → II → Prop) (k5 : Int32 → Int32 → II → Prop) (x1 : Int32) (x2 : Int32) (I : II) : Prop := (k5 x1 (x2 + (nI 1)) I)
set_option maxHeartbeats 4000000 in
set_option maxRecDepth 100000 in
theorem w_X1_poorestOpen_49 {E : EE} {p : Program} {l : Launch} {e : Env} {s : State} {m : MethodId} {args : Array Value} {below : List Frame} {meth : Method} {c : Code} {Q : Int32 → II → Prop} {k5 : Int32 → Int32 → II → Prop} (X : CX E p s m args meth c cX1_poorestOpen 3 (some .int) RX1) {j : Nat} (hj : j < 37) (K5 : ∀ (x1 : Int32) (x2 : Int32) (I : II) (H : Heap) (locs : List Loc) (ls : Array Slot), k5 x1 x2 I → PP E s H locs I → lv_has ls 3 [(0, .ref (E.2.1 (8 * j))), (1, .int x1), (2, .int x2)] → W p l e rmX1_poorestOpen s m args below meth c H locs 0 0 (MQ below (va_Qi Q (BU E) E.2.2.2.1) args s 0 0 E.2.2.2.1) (F0 m 5 ls [])) : ∀ (x1 : Int32) (x2 : Int32) (I : II) (H : Heap) (locs : List Loc) (ls : Array Slot), wp_X1_poorestOpen_49 j Q k5 x1 x2 I → PP E s H locs I → lv_has ls 3 [(0, .ref (E.2.1 (8 * j))), (1, .int x1), (2, .int x2)] → W p l e rmX1_poorestOpen s m args below meth c H locs 0 0 (MQ below (va_Qi Q (BU E) E.2.2.2.1) args s 0 0 E.2.2.2.1) (F0 m 49 ls []) := by
  obtain ⟨⟨hx, hb, hml, hown, hts⟩, hr, hlk, hK, hST, hN⟩ := id X
  intro x1 x2 I H locs ls h hp hl
  unfold wp_X1_poorestOpen_49 at h
  refine lv_iinc (v := (x2 + (nI 1))) (lv' := [(2, .int (x2 + (nI 1))), (0, .ref (E.2.1 (8 * j))), (1, .int x1)]) hx hb dX1_poorestOpen_49 hl (k := 2) rfl rfl (by decide) rfl (fun ls hl => ?_)
  refine lv_goto (tgt := 5) hx hb dX1_poorestOpen_52 (by decide) ?_
  exact K5 _ _ _ _ _ _ h hp (lv_sub hl [1, 2, 0] rfl)
def wp_X1_poorestOpen_47 (j : Nat) (Q : Int32 → II → Prop) (k5 : Int32 → Int32 → II → Prop) (x2 : Int32) (I : II) : Prop := (wp_X1_poorestOpen_49 j Q k5 x2 x2 I)
set_option maxHeartbeats 4000000 in
set_option maxRecDepth 100000 in
theorem w_X1_poorestOpen_47 {E : EE} {p : Program} {l : Launch} {e : Env} {s : State} {m : MethodId} {args : Array Value} {below : List Frame} {meth : Method} {c : Code} {Q : Int32 → II → Prop} {k5 : Int32 → Int32 → II → Prop} (X : CX E p s m args meth c cX1_poorestOpen 3 (some .int) RX1) {j : Nat} (hj : j < 37) (K5 : ∀ (x1 : Int32) (x2 : Int32) (I : II) (H : Heap) (locs : List Loc) (ls : Array Slot), k5 x1 x2 I → PP E s H locs I → lv_has ls 3 [(0, .ref (E.2.1 (8 * j))), (1, .int x1), (2, .int x2)] → W p l e rmX1_poorestOpen s m args below meth c H locs 0 0 (MQ below (va_Qi Q (BU E) E.2.2.2.1) args s 0 0 E.2.2.2.1) (F0 m 5 ls [])) : ∀ (x2 : Int32) (I : II) (H : Heap) (locs : List Loc) (ls : Array Slot), wp_X1_poorestOpen_47 j Q k5 x2 I → PP E s H locs I → lv_has ls 3 [(0, .ref (E.2.1 (8 * j))), (2, .int x2)] → W p l e rmX1_poorestOpen s m args below meth c H locs 0 0 (MQ below (va_Qi Q (BU E) E.2.2.2.1) args s 0 0 E.2.2.2.1) (F0 m 47 ls []) := by
  obtain ⟨⟨hx, hb, hml, hown, hts⟩, hr, hlk, hK, hST, hN⟩ := id X
  intro x2 I H locs ls h hp hl
  unfold wp_X1_poorestOpen_47 at h
  refine lv_iload_n hx hb dX1_poorestOpen_47 rfl (lv_at hl 1 rfl) ?_
  refine lv_istore_n (lv' := [(1, .int x2), (0, .ref (E.2.1 (8 * j))), (2, .int x2)]) hx hb dX1_poorestOpen_48 rfl hl (by decide) rfl (fun ls hl => ?_)
  exact w_X1_poorestOpen_49 X hj K5 _ _ _ _ _ _ h hp (lv_sub hl [1, 0, 2] rfl)
def wp_X1_poorestOpen_5 (j : Nat) (Q : Int32 → II → Prop) (k55 : Int32 → II → Prop) : Nat → Int32 → Int32 → II → Prop
  | 0, _, _, _ => False
  | n + 1, x1, x2, I => (((I (8 * j) 2) ≤ x2 → (k55 x1 I)) ∧ (¬ (I (8 * j) 2) ≤ x2 → (((nI 4) ≤ x2 → (k55 x1 I)) ∧ (¬ (nI 4) ≤ x2 → (wp_X1_isOpen j x2 I (fun r4 I3 => ((r4 = 0 → (wp_X1_poorestOpen_49 j Q (fun x1 x2 I => wp_X1_poorestOpen_5 j Q k55 n x1 x2 I) x1 x2 I3)) ∧ (¬ r4 = 0 → ((x1 = (-nI 1000000) → (wp_X1_poorestOpen_47 j Q (fun x1 x2 I => wp_X1_poorestOpen_5 j Q k55 n x1 x2 I) x2 I3)) ∧ (¬ x1 = (-nI 1000000) → (vp_in x2 4 ∧ (vp_in x1 4 ∧ (((I3 (8 * j + 4) x1.toNatClampNeg) ≤ (I3 (8 * j + 4) x2.toNatClampNeg) → (wp_X1_poorestOpen_49 j Q (fun x1 x2 I => wp_X1_poorestOpen_5 j Q k55 n x1 x2 I) x1 x2 I3)) ∧ (¬ (I3 (8 * j + 4) x1.toNatClampNeg) ≤ (I3 (8 * j + 4) x2.toNatClampNeg) → (wp_X1_poorestOpen_47 j Q (fun x1 x2 I => wp_X1_poorestOpen_5 j Q k55 n x1 x2 I) x2 I3)))))))))))))))
set_option maxHeartbeats 4000000 in
set_option maxRecDepth 100000 in
theorem w_X1_poorestOpen_5 {E : EE} {p : Program} {l : Launch} {e : Env} {s : State} {m : MethodId} {args : Array Value} {below : List Frame} {meth : Method} {c : Code} {Q : Int32 → II → Prop} {k55 : Int32 → II → Prop} (X : CX E p s m args meth c cX1_poorestOpen 3 (some .int) RX1) {j : Nat} (hj : j < 37) (K55 : ∀ (x1 : Int32) (I : II) (H : Heap) (locs : List Loc) (ls : Array Slot), k55 x1 I → PP E s H locs I → lv_has ls 3 [(1, .int x1)] → W p l e rmX1_poorestOpen s m args below meth c H locs 0 0 (MQ below (va_Qi Q (BU E) E.2.2.2.1) args s 0 0 E.2.2.2.1) (F0 m 55 ls [])) : ∀ (n : Nat) (x1 : Int32) (x2 : Int32) (I : II) (H : Heap) (locs : List Loc) (ls : Array Slot), wp_X1_poorestOpen_5 j Q k55 n x1 x2 I → PP E s H locs I → lv_has ls 3 [(0, .ref (E.2.1 (8 * j))), (1, .int x1), (2, .int x2)] → W p l e rmX1_poorestOpen s m args below meth c H locs 0 0 (MQ below (va_Qi Q (BU E) E.2.2.2.1) args s 0 0 E.2.2.2.1) (F0 m 5 ls []) := by
  obtain ⟨⟨hx, hb, hml, hown, hts⟩, hr, hlk, hK, hST, hN⟩ := id X
  intro n
  induction n with
  | zero =>
    intro x1 x2 I H locs ls h hp hl
    exact False.elim h
  | succ n ih =>
    intro x1 x2 I H locs ls h hp hl
    rw [wp_X1_poorestOpen_5.eq_2] at h
    refine lv_iload_n hx hb dX1_poorestOpen_5 rfl (lv_at hl 2 rfl) ?_
    refine lv_aload_n hx hb dX1_poorestOpen_6 rfl (lv_at hl 0 rfl) ?_
    refine f_X1_33 X hp hj dX1_poorestOpen_7 ?_
    refine lv_icmp_ge (tgt := 55) hx hb dX1_poorestOpen_10 (by decide) (fun c1 => ?_) (fun c1 => ?_)
    · have h := h.1 c1
      exact K55 _ _ _ _ _ h hp (lv_sub hl [1] rfl)
    · have h := h.2 c1
      refine lv_iload_n hx hb dX1_poorestOpen_13 rfl (lv_at hl 2 rfl) ?_
      refine lv_iconst (v := (nI 4)) hx hb dX1_poorestOpen_14 (by decide) ?_
      refine lv_icmp_ge (tgt := 55) hx hb dX1_poorestOpen_15 (by decide) (fun c2 => ?_) (fun c2 => ?_)
      · have h := h.1 c2
        exact K55 _ _ _ _ _ h hp (lv_sub hl [1] rfl)
      · have h := h.2 c2
        refine lv_aload_n hx hb dX1_poorestOpen_18 rfl (lv_at hl 0 rfl) ?_
        refine lv_iload_n hx hb dX1_poorestOpen_19 rfl (lv_at hl 2 rfl) ?_
        refine ki (kV (As := [.int x2]) (rest := []) X hp (C_X1_isOpen hj h) tw_ml_X1_85 vf_X1_isOpen ⟨rfl, rfl, Nat.le_of_ble_eq_true rfl, Nat.le_of_ble_eq_true rfl⟩ (pr_rcvb X hp hj) rfl hl.1 rfl (Nat.le_of_ble_eq_true rfl) dX1_poorestOpen_20) hp (fun r4 I3 H locs h hp => ?_)
        refine lv_if_eq (tgt := 49) hx hb dX1_poorestOpen_23 (by decide) (fun c5 => ?_) (fun c5 => ?_)
        · have h := h.1 c5
          exact w_X1_poorestOpen_49 X hj ih _ _ _ _ _ _ h hp (lv_sub hl [0, 1, 2] rfl)
        · have h := h.2 c5
          refine lv_iload_n hx hb dX1_poorestOpen_26 rfl (lv_at hl 1 rfl) ?_
          refine lv_ldc (v := (-nI 1000000)) hx hb hown (hts _ tw_k_X1_68) dX1_poorestOpen_27 ?_
          refine lv_icmp_eq (tgt := 47) hx hb dX1_poorestOpen_29 (by decide) (fun c6 => ?_) (fun c6 => ?_)
          · have h := h.1 c6
            exact w_X1_poorestOpen_47 X hj ih _ _ _ _ _ h hp (lv_sub hl [0, 2] rfl)
          · have h := h.2 c6
            refine lv_aload_n hx hb dX1_poorestOpen_32 rfl (lv_at hl 0 rfl) ?_
            refine f_X1_21 X hp hj dX1_poorestOpen_33 ?_
            refine lv_iload_n hx hb dX1_poorestOpen_36 rfl (lv_at hl 2 rfl) ?_
            have hv7 := h.1
            have h := h.2
            refine al_i X hp (ar_4 hj) hv7 dX1_poorestOpen_37 ?_
            refine lv_aload_n hx hb dX1_poorestOpen_38 rfl (lv_at hl 0 rfl) ?_
            refine f_X1_21 X hp hj dX1_poorestOpen_39 ?_
            refine lv_iload_n hx hb dX1_poorestOpen_42 rfl (lv_at hl 1 rfl) ?_
            have hv8 := h.1
            have h := h.2
            refine al_i X hp (ar_4 hj) hv8 dX1_poorestOpen_43 ?_
            refine lv_icmp_ge (tgt := 49) hx hb dX1_poorestOpen_44 (by decide) (fun c9 => ?_) (fun c9 => ?_)
            · have h := h.1 c9
              exact w_X1_poorestOpen_49 X hj ih _ _ _ _ _ _ h hp (lv_sub hl [0, 1, 2] rfl)
            · have h := h.2 c9
              exact w_X1_poorestOpen_47 X hj ih _ _ _ _ _ h hp (lv_sub hl [0, 2] rfl)
def wp_X1_poorestOpen (j : Nat) (I : II) (Q : Int32 → II → Prop) : Prop := (∃ n51, wp_X1_poorestOpen_5 j Q (fun x1 I => (Q x1 I)) n51 (-nI 1000000) (nI 0) I)
set_option maxHeartbeats 4000000 in
set_option maxRecDepth 100000 in
theorem w_X1_poorestOpen_0 {E : EE} {p : Program} {l : Launch} {e : Env} {s : State} {m : MethodId} {args : Array Value} {below : List Frame} {meth : Method} {c : Code} {Q : Int32 → II → Prop} (X : CX E p s m args meth c cX1_poorestOpen 3 (some .int) RX1) {j : Nat} (hj : j < 37) : ∀ (I : II) (H : Heap) (locs : List Loc) (ls : Array Slot), wp_X1_poorestOpen j I Q → PP E s H locs I → lv_has ls 3 [(0, .ref (E.2.1 (8 * j)))] → W p l e rmX1_poorestOpen s m args below meth c H locs 0 0 (MQ below (va_Qi Q (BU E) E.2.2.2.1) args s 0 0 E.2.2.2.1) (F0 m 0 ls []) := by
  obtain ⟨⟨hx, hb, hml, hown, hts⟩, hr, hlk, hK, hST, hN⟩ := id X
  intro I H locs ls h hp hl
  unfold wp_X1_poorestOpen at h
  refine lv_ldc (v := (-nI 1000000)) hx hb hown (hts _ tw_k_X1_68) dX1_poorestOpen_0 ?_
  refine lv_istore_n (lv' := [(1, .int (-nI 1000000)), (0, .ref (E.2.1 (8 * j)))]) hx hb dX1_poorestOpen_2 rfl hl (by decide) rfl (fun ls hl => ?_)
  refine lv_iconst (v := (nI 0)) hx hb dX1_poorestOpen_3 (by decide) ?_
  refine lv_istore_n (lv' := [(2, .int (nI 0)), (1, .int (-nI 1000000)), (0, .ref (E.2.1 (8 * j)))]) hx hb dX1_poorestOpen_4 rfl hl (by decide) rfl (fun ls hl => ?_)
  obtain ⟨n51, h⟩ := h
  refine w_X1_poorestOpen_5 X hj ?_ n51 _ _ _ _ _ _ h hp (lv_sub hl [2, 1, 0] rfl)
  · intro x1 I H locs ls h hp hl
    refine lv_iload_n hx hb dX1_poorestOpen_55 rfl (lv_at hl 0 rfl) ?_
    exact rt_i X hp h dX1_poorestOpen_56
set_option maxRecDepth 100000 in
theorem C_X1_poorestOpen {E : EE} {l : Launch} {j : Nat} (hj : j < 37) {I : II} {Q : Int32 → II → Prop} (h : wp_X1_poorestOpen j I Q) : Met l yX1_poorestOpen (Cond.code yX1_poorestOpen cX1_poorestOpen 3 (some .int) :: lwT) rmX1_poorestOpen (va_Pc [.ref (E.2.1 (8 * j))] (PU E I)) (va_Qi Q (BU E) E.2.2.2.1) 0 0 E.2.2.2.1 :=
  ofWalk [.ref (E.2.1 (8 * j))] (by decide) tw_c_X1_poorestOpen (Nat.le_of_ble_eq_true rfl) (fun p e s m below meth c ls X hp hl => w_X1_poorestOpen_0 X hj _ _ _ _ h hp hl)
abbrev rmX1_handOver : Room := { frames := 1, cells := 0, slots := 0, locals := 23 }
theorem vf_X1_handOver : VF yX1_handOver RX1 cX1_handOver 3 none 2 := ⟨tw_in_X1, tw_im_X1_handOver, tw_se_X1_handOver, tw_c_X1_handOver, by decide, by decide, by decide +kernel⟩
def wp_X1_handOver_62 (j : Nat) (Q : II → Prop) (x1 : Int32) (I : II) : Prop := (vp_in x1 4 ∧ (vp_in x1 4 ∧ ∀ I3 : II, I3 = su I (8 * j + 5) x1.toNatClampNeg ((I (8 * j + 5) x1.toNatClampNeg) + (nI 1)) → (∀ I5 : II, I5 = su I3 (8 * j) 5 ((I3 (8 * j) 5) + (nI 1)) → (Q I5))))
set_option maxHeartbeats 4000000 in
set_option maxRecDepth 100000 in
theorem w_X1_handOver_62 {E : EE} {p : Program} {l : Launch} {e : Env} {s : State} {m : MethodId} {args : Array Value} {below : List Frame} {meth : Method} {c : Code} {Q : II → Prop} (X : CX E p s m args meth c cX1_handOver 3 none RX1) {j : Nat} (hj : j < 37) : ∀ (x1 : Int32) (I : II) (H : Heap) (locs : List Loc) (ls : Array Slot), wp_X1_handOver_62 j Q x1 I → PP E s H locs I → lv_has ls 3 [(0, .ref (E.2.1 (8 * j))), (1, .int x1)] → W p l e rmX1_handOver s m args below meth c H locs 0 0 (MQ below (va_Qv Q (BU E) E.2.2.2.1) args s 0 0 E.2.2.2.1) (F0 m 62 ls []) := by
  obtain ⟨⟨hx, hb, hml, hown, hts⟩, hr, hlk, hK, hST, hN⟩ := id X
  intro x1 I H locs ls h hp hl
  unfold wp_X1_handOver_62 at h
  refine lv_aload_n hx hb dX1_handOver_62 rfl (lv_at hl 0 rfl) ?_
  refine f_X1_24 X hp hj dX1_handOver_63 ?_
  refine lv_iload_n hx hb dX1_handOver_66 rfl (lv_at hl 1 rfl) ?_
  refine lv_dup2_11 hx hb dX1_handOver_67 rfl rfl ?_
  have hv1 := h.1
  have h := h.2
  refine al_i X hp (ar_5 hj) hv1 dX1_handOver_68 ?_
  refine lv_iconst (v := (nI 1)) hx hb dX1_handOver_69 (by decide) ?_
  refine lv_iadd hx hb dX1_handOver_70 ?_
  have hv2 := h.1
  have h := h.2
  refine as_i X hp (ar_5 hj) hv2 dX1_handOver_71 (fun H locs hp => ?_)
  obtain ⟨I3, e4⟩ : ∃ y, y = su I (8 * j + 5) x1.toNatClampNeg ((I (8 * j + 5) x1.toNatClampNeg) + (nI 1)) := ⟨_, rfl⟩
  have hp : PP E s H locs I3 := by rw [e4]; exact hp
  have h := h I3 e4
  refine lv_aload_n hx hb dX1_handOver_72 rfl (lv_at hl 0 rfl) ?_
  refine lv_dup hx hb dX1_handOver_73 rfl ?_
  refine f_X1_43 X hp hj dX1_handOver_74 ?_
  refine lv_iconst (v := (nI 1)) hx hb dX1_handOver_77 (by decide) ?_
  refine lv_iadd hx hb dX1_handOver_78 ?_
  refine g_X1_43 X hp hj dX1_handOver_79 (fun H locs hp => ?_)
  obtain ⟨I5, e6⟩ : ∃ y, y = su I3 (8 * j) 5 ((I3 (8 * j) 5) + (nI 1)) := ⟨_, rfl⟩
  have hp : PP E s H locs I5 := by rw [e6]; exact hp
  have h := h I5 e6
  exact rt_v X hp h dX1_handOver_82
def wp_X1_handOver (j : Nat) (x1 : Int32) (x2 : Int32) (I : II) (Q : II → Prop) : Prop := (wp_X1_hasTeller j x1 I (fun r2 I1 => ((¬ r2 = 0 → (wp_X1_isDrawing j x2 I1 (fun r5 I4 => ((r5 = 0 → (vp_in x1 4 ∧ (wp_X1_sumOf j x2 I4 (fun r9 I8 => (vp_in x1 4 ∧ ∀ I11 : II, I11 = su I8 (8 * j + 4) x1.toNatClampNeg (if (nI 99) < ((I4 (8 * j + 4) x1.toNatClampNeg) + r9) then (nI 99) else ((I4 (8 * j + 4) x1.toNatClampNeg) + r9)) → (wp_X1_handOver_62 j Q x1 I11)))))) ∧ (¬ r5 = 0 → (vp_in x1 4 ∧ (wp_X1_sumOf j x2 I4 (fun r15 I14 => (wp_X1_costTo j x1 r15 I14 (fun r17 I16 => (vp_in x1 4 ∧ ∀ I19 : II, I19 = su I16 (8 * j + 4) x1.toNatClampNeg ((I4 (8 * j + 4) x1.toNatClampNeg) - r17) → (wp_X1_handOver_62 j Q x1 I19)))))))))))) ∧ (r2 = 0 → (Q I1)))))
set_option maxHeartbeats 4000000 in
set_option maxRecDepth 100000 in
theorem w_X1_handOver_0 {E : EE} {p : Program} {l : Launch} {e : Env} {s : State} {m : MethodId} {args : Array Value} {below : List Frame} {meth : Method} {c : Code} {Q : II → Prop} (X : CX E p s m args meth c cX1_handOver 3 none RX1) {j : Nat} (hj : j < 37) : ∀ (x1 : Int32) (x2 : Int32) (I : II) (H : Heap) (locs : List Loc) (ls : Array Slot), wp_X1_handOver j x1 x2 I Q → PP E s H locs I → lv_has ls 3 [(0, .ref (E.2.1 (8 * j))), (1, .int x1), (2, .int x2)] → W p l e rmX1_handOver s m args below meth c H locs 0 0 (MQ below (va_Qv Q (BU E) E.2.2.2.1) args s 0 0 E.2.2.2.1) (F0 m 0 ls []) := by
  obtain ⟨⟨hx, hb, hml, hown, hts⟩, hr, hlk, hK, hST, hN⟩ := id X
  intro x1 x2 I H locs ls h hp hl
  unfold wp_X1_handOver at h
  refine lv_aload_n hx hb dX1_handOver_0 rfl (lv_at hl 0 rfl) ?_
  refine lv_iload_n hx hb dX1_handOver_1 rfl (lv_at hl 1 rfl) ?_
  refine ki (kV (As := [.int x1]) (rest := []) X hp (C_X1_hasTeller hj h) tw_ml_X1_77 vf_X1_hasTeller ⟨rfl, rfl, Nat.le_of_ble_eq_true rfl, Nat.le_of_ble_eq_true rfl⟩ (pr_rcvb X hp hj) rfl hl.1 rfl (Nat.le_of_ble_eq_true rfl) dX1_handOver_2) hp (fun r2 I1 H locs h hp => ?_)
  refine lv_if_ne (tgt := 9) hx hb dX1_handOver_5 (by decide) (fun c3 => ?_) (fun c3 => ?_)
  · have h := h.1 c3
    refine lv_aload_n hx hb dX1_handOver_9 rfl (lv_at hl 0 rfl) ?_
    refine lv_iload_n hx hb dX1_handOver_10 rfl (lv_at hl 2 rfl) ?_
    refine ki (kV (As := [.int x2]) (rest := []) X hp (C_X1_isDrawing hj h) tw_ml_X1_88 vf_X1_isDrawing ⟨rfl, rfl, Nat.le_of_ble_eq_true rfl, Nat.le_of_ble_eq_true rfl⟩ (pr_rcvb X hp hj) rfl hl.1 rfl (Nat.le_of_ble_eq_true rfl) dX1_handOver_11) hp (fun r5 I4 H locs h hp => ?_)
    refine lv_if_eq (tgt := 39) hx hb dX1_handOver_14 (by decide) (fun c6 => ?_) (fun c6 => ?_)
    · have h := h.1 c6
      refine lv_aload_n hx hb dX1_handOver_39 rfl (lv_at hl 0 rfl) ?_
      refine f_X1_21 X hp hj dX1_handOver_40 ?_
      refine lv_iload_n hx hb dX1_handOver_43 rfl (lv_at hl 1 rfl) ?_
      refine lv_aload_n hx hb dX1_handOver_44 rfl (lv_at hl 0 rfl) ?_
      refine f_X1_21 X hp hj dX1_handOver_45 ?_
      refine lv_iload_n hx hb dX1_handOver_48 rfl (lv_at hl 1 rfl) ?_
      have hv7 := h.1
      have h := h.2
      refine al_i X hp (ar_4 hj) hv7 dX1_handOver_49 ?_
      refine lv_aload_n hx hb dX1_handOver_50 rfl (lv_at hl 0 rfl) ?_
      refine lv_iload_n hx hb dX1_handOver_51 rfl (lv_at hl 2 rfl) ?_
      refine ki (kV (As := [.int x2]) (rest := [.int (I4 (8 * j + 4) x1.toNatClampNeg), .int x1, .ref (E.2.1 (8 * j + 4))]) X hp (C_X1_sumOf hj h) tw_ml_X1_91 vf_X1_sumOf ⟨rfl, rfl, Nat.le_of_ble_eq_true rfl, Nat.le_of_ble_eq_true rfl⟩ (pr_rcvb X hp hj) rfl hl.1 rfl (Nat.le_of_ble_eq_true rfl) dX1_handOver_52) hp (fun r9 I8 H locs h hp => ?_)
      refine lv_iadd hx hb dX1_handOver_55 ?_
      refine lv_bipush (v := (nI 99)) hx hb dX1_handOver_56 (by decide) ?_
      refine mn_i X tw_ml_X1_104 hl.1 ⟨Nat.le_of_ble_eq_true rfl, Nat.le_of_ble_eq_true rfl⟩ dX1_handOver_58 ?_
      have hv10 := h.1
      have h := h.2
      refine as_i X hp (ar_4 hj) hv10 dX1_handOver_61 (fun H locs hp => ?_)
      obtain ⟨I11, e12⟩ : ∃ y, y = su I8 (8 * j + 4) x1.toNatClampNeg (if (nI 99) < ((I4 (8 * j + 4) x1.toNatClampNeg) + r9) then (nI 99) else ((I4 (8 * j + 4) x1.toNatClampNeg) + r9)) := ⟨_, rfl⟩
      have hp : PP E s H locs I11 := by rw [e12]; exact hp
      have h := h I11 e12
      exact w_X1_handOver_62 X hj  _ _ _ _ _ h hp (lv_sub hl [0, 1] rfl)
    · have h := h.2 c6
      refine lv_aload_n hx hb dX1_handOver_17 rfl (lv_at hl 0 rfl) ?_
      refine f_X1_21 X hp hj dX1_handOver_18 ?_
      refine lv_iload_n hx hb dX1_handOver_21 rfl (lv_at hl 1 rfl) ?_
      refine lv_dup2_11 hx hb dX1_handOver_22 rfl rfl ?_
      have hv13 := h.1
      have h := h.2
      refine al_i X hp (ar_4 hj) hv13 dX1_handOver_23 ?_
      refine lv_aload_n hx hb dX1_handOver_24 rfl (lv_at hl 0 rfl) ?_
      refine lv_iload_n hx hb dX1_handOver_25 rfl (lv_at hl 1 rfl) ?_
      refine lv_aload_n hx hb dX1_handOver_26 rfl (lv_at hl 0 rfl) ?_
      refine lv_iload_n hx hb dX1_handOver_27 rfl (lv_at hl 2 rfl) ?_
      refine ki (kV (As := [.int x2]) (rest := [.int x1, .ref (E.2.1 (8 * j)), .int (I4 (8 * j + 4) x1.toNatClampNeg), .int x1, .ref (E.2.1 (8 * j + 4))]) X hp (C_X1_sumOf hj h) tw_ml_X1_91 vf_X1_sumOf ⟨rfl, rfl, Nat.le_of_ble_eq_true rfl, Nat.le_of_ble_eq_true rfl⟩ (pr_rcvb X hp hj) rfl hl.1 rfl (Nat.le_of_ble_eq_true rfl) dX1_handOver_28) hp (fun r15 I14 H locs h hp => ?_)
      refine ki (kV (As := [.int x1, .int r15]) (rest := [.int (I4 (8 * j + 4) x1.toNatClampNeg), .int x1, .ref (E.2.1 (8 * j + 4))]) X hp (C_X1_costTo hj h) tw_ml_X1_81 vf_X1_costTo ⟨rfl, rfl, Nat.le_of_ble_eq_true rfl, Nat.le_of_ble_eq_true rfl⟩ (pr_rcvb X hp hj) rfl hl.1 rfl (Nat.le_of_ble_eq_true rfl) dX1_handOver_31) hp (fun r17 I16 H locs h hp => ?_)
      refine lv_isub hx hb dX1_handOver_34 ?_
      have hv18 := h.1
      have h := h.2
      refine as_i X hp (ar_4 hj) hv18 dX1_handOver_35 (fun H locs hp => ?_)
      obtain ⟨I19, e20⟩ : ∃ y, y = su I16 (8 * j + 4) x1.toNatClampNeg ((I4 (8 * j + 4) x1.toNatClampNeg) - r17) := ⟨_, rfl⟩
      have hp : PP E s H locs I19 := by rw [e20]; exact hp
      have h := h I19 e20
      refine lv_goto (tgt := 62) hx hb dX1_handOver_36 (by decide) ?_
      exact w_X1_handOver_62 X hj  _ _ _ _ _ h hp (lv_sub hl [0, 1] rfl)
  · have h := h.2 c3
    exact rt_v X hp h dX1_handOver_8
set_option maxRecDepth 100000 in
theorem C_X1_handOver {E : EE} {l : Launch} {j : Nat} (hj : j < 37) {x1 : Int32} {x2 : Int32} {I : II} {Q : II → Prop} (h : wp_X1_handOver j x1 x2 I Q) : Met l yX1_handOver (Cond.code yX1_handOver cX1_handOver 3 none :: lwT) rmX1_handOver (va_Pc [.ref (E.2.1 (8 * j)), .int x1, .int x2] (PU E I)) (va_Qv Q (BU E) E.2.2.2.1) 0 0 E.2.2.2.1 :=
  ofWalk [.ref (E.2.1 (8 * j)), .int x1, .int x2] (by decide) tw_c_X1_handOver (Nat.le_of_ble_eq_true rfl) (fun p e s m below meth c ls X hp hl => w_X1_handOver_0 X hj _ _ _ _ _ _ h hp hl)
abbrev rmX1_attend : Room := { frames := 2, cells := 0, slots := 0, locals := 47 }
theorem vf_X1_attend : VF yX1_attend RX1 cX1_attend 3 (some .int) 1 := ⟨tw_in_X1, tw_im_X1_attend, tw_se_X1_attend, tw_c_X1_attend, by decide, by decide, by decide +kernel⟩
def wp_X1_attend_24 (j : Nat) (Q : Int32 → II → Prop) (x1 : Int32) (v0 : Int32) (I : II) : Prop := ((¬ v0 = (-nI 1000000) → (wp_X1_handOver j v0 x1 I (fun I2 => (Q v0 I2)))) ∧ (v0 = (-nI 1000000) → (∀ I4 : II, I4 = su I (8 * j) 6 ((I (8 * j) 6) + (nI 1)) → (Q v0 I4))))
set_option maxHeartbeats 4000000 in
set_option maxRecDepth 100000 in
theorem w_X1_attend_24 {E : EE} {p : Program} {l : Launch} {e : Env} {s : State} {m : MethodId} {args : Array Value} {below : List Frame} {meth : Method} {c : Code} {Q : Int32 → II → Prop} (X : CX E p s m args meth c cX1_attend 3 (some .int) RX1) {j : Nat} (hj : j < 37) : ∀ (x1 : Int32) (v0 : Int32) (I : II) (H : Heap) (locs : List Loc) (ls : Array Slot), wp_X1_attend_24 j Q x1 v0 I → PP E s H locs I → lv_has ls 3 [(0, .ref (E.2.1 (8 * j))), (1, .int x1)] → W p l e rmX1_attend s m args below meth c H locs 0 0 (MQ below (va_Qi Q (BU E) E.2.2.2.1) args s 0 0 E.2.2.2.1) (F0 m 24 ls [.int v0]) := by
  obtain ⟨⟨hx, hb, hml, hown, hts⟩, hr, hlk, hK, hST, hN⟩ := id X
  intro x1 v0 I H locs ls h hp hl
  unfold wp_X1_attend_24 at h
  refine lv_istore_n (lv' := [(2, .int v0), (0, .ref (E.2.1 (8 * j))), (1, .int x1)]) hx hb dX1_attend_24 rfl hl (by decide) rfl (fun ls hl => ?_)
  refine lv_iload_n hx hb dX1_attend_25 rfl (lv_at hl 0 rfl) ?_
  refine lv_ldc (v := (-nI 1000000)) hx hb hown (hts _ tw_k_X1_68) dX1_attend_26 ?_
  refine lv_icmp_ne (tgt := 44) hx hb dX1_attend_28 (by decide) (fun c1 => ?_) (fun c1 => ?_)
  · have h := h.1 c1
    refine lv_aload_n hx hb dX1_attend_44 rfl (lv_at hl 1 rfl) ?_
    refine lv_iload_n hx hb dX1_attend_45 rfl (lv_at hl 0 rfl) ?_
    refine lv_iload_n hx hb dX1_attend_46 rfl (lv_at hl 2 rfl) ?_
    refine kv (kV (As := [.int v0, .int x1]) (rest := []) X hp (C_X1_handOver hj h) tw_ml_X1_100 vf_X1_handOver ⟨rfl, rfl, Nat.le_of_ble_eq_true rfl, Nat.le_of_ble_eq_true rfl⟩ (pr_rcvb X hp hj) rfl hl.1 rfl (Nat.le_of_ble_eq_true rfl) dX1_attend_47) hp (fun I2 H locs h hp => ?_)
    refine lv_iload_n hx hb dX1_attend_50 rfl (lv_at hl 0 rfl) ?_
    exact rt_i X hp h dX1_attend_51
  · have h := h.2 c1
    refine lv_aload_n hx hb dX1_attend_31 rfl (lv_at hl 1 rfl) ?_
    refine lv_dup hx hb dX1_attend_32 rfl ?_
    refine f_X1_46 X hp hj dX1_attend_33 ?_
    refine lv_iconst (v := (nI 1)) hx hb dX1_attend_36 (by decide) ?_
    refine lv_iadd hx hb dX1_attend_37 ?_
    refine g_X1_46 X hp hj dX1_attend_38 (fun H locs hp => ?_)
    obtain ⟨I4, e5⟩ : ∃ y, y = su I (8 * j) 6 ((I (8 * j) 6) + (nI 1)) := ⟨_, rfl⟩
    have hp : PP E s H locs I4 := by rw [e5]; exact hp
    have h := h I4 e5
    refine lv_goto (tgt := 50) hx hb dX1_attend_41 (by decide) ?_
    refine lv_iload_n hx hb dX1_attend_50 rfl (lv_at hl 0 rfl) ?_
    exact rt_i X hp h dX1_attend_51
def wp_X1_attend (j : Nat) (x1 : Int32) (I : II) (Q : Int32 → II → Prop) : Prop := (wp_X1_isDrawing j x1 I (fun r2 I1 => ((r2 = 0 → (wp_X1_poorestOpen j I1 (fun r5 I4 => (wp_X1_attend_24 j Q x1 r5 I4)))) ∧ (¬ r2 = 0 → (wp_X1_sumOf j x1 I1 (fun r7 I6 => (wp_X1_drawerOf j r7 I6 (fun r9 I8 => (wp_X1_attend_24 j Q x1 r9 I8)))))))))
set_option maxHeartbeats 4000000 in
set_option maxRecDepth 100000 in
theorem w_X1_attend_0 {E : EE} {p : Program} {l : Launch} {e : Env} {s : State} {m : MethodId} {args : Array Value} {below : List Frame} {meth : Method} {c : Code} {Q : Int32 → II → Prop} (X : CX E p s m args meth c cX1_attend 3 (some .int) RX1) {j : Nat} (hj : j < 37) : ∀ (x1 : Int32) (I : II) (H : Heap) (locs : List Loc) (ls : Array Slot), wp_X1_attend j x1 I Q → PP E s H locs I → lv_has ls 3 [(0, .ref (E.2.1 (8 * j))), (1, .int x1)] → W p l e rmX1_attend s m args below meth c H locs 0 0 (MQ below (va_Qi Q (BU E) E.2.2.2.1) args s 0 0 E.2.2.2.1) (F0 m 0 ls []) := by
  obtain ⟨⟨hx, hb, hml, hown, hts⟩, hr, hlk, hK, hST, hN⟩ := id X
  intro x1 I H locs ls h hp hl
  unfold wp_X1_attend at h
  refine lv_aload_n hx hb dX1_attend_0 rfl (lv_at hl 0 rfl) ?_
  refine lv_iload_n hx hb dX1_attend_1 rfl (lv_at hl 1 rfl) ?_
  refine ki (kV (As := [.int x1]) (rest := []) X hp (C_X1_isDrawing hj h) tw_ml_X1_88 vf_X1_isDrawing ⟨rfl, rfl, Nat.le_of_ble_eq_true rfl, Nat.le_of_ble_eq_true rfl⟩ (pr_rcvb X hp hj) rfl hl.1 rfl (Nat.le_of_ble_eq_true rfl) dX1_attend_2) hp (fun r2 I1 H locs h hp => ?_)
  refine lv_if_eq (tgt := 20) hx hb dX1_attend_5 (by decide) (fun c3 => ?_) (fun c3 => ?_)
  · have h := h.1 c3
    refine lv_aload_n hx hb dX1_attend_20 rfl (lv_at hl 0 rfl) ?_
    refine ki (kV (As := []) (rest := []) X hp (C_X1_poorestOpen hj h) tw_ml_X1_97 vf_X1_poorestOpen ⟨rfl, rfl, Nat.le_of_ble_eq_true rfl, Nat.le_of_ble_eq_true rfl⟩ (pr_rcvb X hp hj) rfl hl.1 rfl (Nat.le_of_ble_eq_true rfl) dX1_attend_21) hp (fun r5 I4 H locs h hp => ?_)
    exact w_X1_attend_24 X hj  _ _ _ _ _ _ h hp (lv_sub hl [0, 1] rfl)
  · have h := h.2 c3
    refine lv_aload_n hx hb dX1_attend_8 rfl (lv_at hl 0 rfl) ?_
    refine lv_aload_n hx hb dX1_attend_9 rfl (lv_at hl 0 rfl) ?_
    refine lv_iload_n hx hb dX1_attend_10 rfl (lv_at hl 1 rfl) ?_
    refine ki (kV (As := [.int x1]) (rest := [.ref (E.2.1 (8 * j))]) X hp (C_X1_sumOf hj h) tw_ml_X1_91 vf_X1_sumOf ⟨rfl, rfl, Nat.le_of_ble_eq_true rfl, Nat.le_of_ble_eq_true rfl⟩ (pr_rcvb X hp hj) rfl hl.1 rfl (Nat.le_of_ble_eq_true rfl) dX1_attend_11) hp (fun r7 I6 H locs h hp => ?_)
    refine ki (kV (As := [.int r7]) (rest := []) X hp (C_X1_drawerOf hj h) tw_ml_X1_94 vf_X1_drawerOf ⟨rfl, rfl, Nat.le_of_ble_eq_true rfl, Nat.le_of_ble_eq_true rfl⟩ (pr_rcvb X hp hj) rfl hl.1 rfl (Nat.le_of_ble_eq_true rfl) dX1_attend_14) hp (fun r9 I8 H locs h hp => ?_)
    refine lv_goto (tgt := 24) hx hb dX1_attend_17 (by decide) ?_
    exact w_X1_attend_24 X hj  _ _ _ _ _ _ h hp (lv_sub hl [0, 1] rfl)
set_option maxRecDepth 100000 in
theorem C_X1_attend {E : EE} {l : Launch} {j : Nat} (hj : j < 37) {x1 : Int32} {I : II} {Q : Int32 → II → Prop} (h : wp_X1_attend j x1 I Q) : Met l yX1_attend (Cond.code yX1_attend cX1_attend 3 (some .int) :: lwT) rmX1_attend (va_Pc [.ref (E.2.1 (8 * j)), .int x1] (PU E I)) (va_Qi Q (BU E) E.2.2.2.1) 0 0 E.2.2.2.1 :=
  ofWalk [.ref (E.2.1 (8 * j)), .int x1] (by decide) tw_c_X1_attend (Nat.le_of_ble_eq_true rfl) (fun p e s m below meth c ls X hp hl => w_X1_attend_0 X hj _ _ _ _ _ h hp hl)
abbrev rmX1_endTurn : Room := { frames := 0, cells := 0, slots := 0, locals := 0 }
theorem vf_X1_endTurn : VF yX1_endTurn RX1 cX1_endTurn 2 none 0 := ⟨tw_in_X1, tw_im_X1_endTurn, tw_se_X1_endTurn, tw_c_X1_endTurn, by decide, by decide, by decide +kernel⟩
def wp_X1_endTurn_77 (j : Nat) (Q : II → Prop) (I : II) : Prop := (∀ I1 : II, I1 = su I (8 * j) 4 ((I (8 * j) 4) + (nI 1)) → (Q I1))
set_option maxHeartbeats 4000000 in
set_option maxRecDepth 100000 in
theorem w_X1_endTurn_77 {E : EE} {p : Program} {l : Launch} {e : Env} {s : State} {m : MethodId} {args : Array Value} {below : List Frame} {meth : Method} {c : Code} {Q : II → Prop} (X : CX E p s m args meth c cX1_endTurn 2 none RX1) {j : Nat} (hj : j < 37) : ∀ (I : II) (H : Heap) (locs : List Loc) (ls : Array Slot), wp_X1_endTurn_77 j Q I → PP E s H locs I → lv_has ls 2 [(0, .ref (E.2.1 (8 * j)))] → W p l e rmX1_endTurn s m args below meth c H locs 0 0 (MQ below (va_Qv Q (BU E) E.2.2.2.1) args s 0 0 E.2.2.2.1) (F0 m 77 ls []) := by
  obtain ⟨⟨hx, hb, hml, hown, hts⟩, hr, hlk, hK, hST, hN⟩ := id X
  intro I H locs ls h hp hl
  unfold wp_X1_endTurn_77 at h
  refine lv_aload_n hx hb dX1_endTurn_77 rfl (lv_at hl 0 rfl) ?_
  refine lv_dup hx hb dX1_endTurn_78 rfl ?_
  refine f_X1_40 X hp hj dX1_endTurn_79 ?_
  refine lv_iconst (v := (nI 1)) hx hb dX1_endTurn_82 (by decide) ?_
  refine lv_iadd hx hb dX1_endTurn_83 ?_
  refine g_X1_40 X hp hj dX1_endTurn_84 (fun H locs hp => ?_)
  obtain ⟨I1, e2⟩ : ∃ y, y = su I (8 * j) 4 ((I (8 * j) 4) + (nI 1)) := ⟨_, rfl⟩
  have hp : PP E s H locs I1 := by rw [e2]; exact hp
  have h := h I1 e2
  exact rt_v X hp h dX1_endTurn_87
def wp_X1_endTurn_71 (j : Nat) (Q : II → Prop) (k23 : Int32 → II → Prop) (x1 : Int32) (I : II) : Prop := (k23 (x1 + (nI 1)) I)
set_option maxHeartbeats 4000000 in
set_option maxRecDepth 100000 in
theorem w_X1_endTurn_71 {E : EE} {p : Program} {l : Launch} {e : Env} {s : State} {m : MethodId} {args : Array Value} {below : List Frame} {meth : Method} {c : Code} {Q : II → Prop} {k23 : Int32 → II → Prop} (X : CX E p s m args meth c cX1_endTurn 2 none RX1) {j : Nat} (hj : j < 37) (K23 : ∀ (x1 : Int32) (I : II) (H : Heap) (locs : List Loc) (ls : Array Slot), k23 x1 I → PP E s H locs I → lv_has ls 2 [(0, .ref (E.2.1 (8 * j))), (1, .int x1)] → W p l e rmX1_endTurn s m args below meth c H locs 0 0 (MQ below (va_Qv Q (BU E) E.2.2.2.1) args s 0 0 E.2.2.2.1) (F0 m 23 ls [])) : ∀ (x1 : Int32) (I : II) (H : Heap) (locs : List Loc) (ls : Array Slot), wp_X1_endTurn_71 j Q k23 x1 I → PP E s H locs I → lv_has ls 2 [(0, .ref (E.2.1 (8 * j))), (1, .int x1)] → W p l e rmX1_endTurn s m args below meth c H locs 0 0 (MQ below (va_Qv Q (BU E) E.2.2.2.1) args s 0 0 E.2.2.2.1) (F0 m 71 ls []) := by
  obtain ⟨⟨hx, hb, hml, hown, hts⟩, hr, hlk, hK, hST, hN⟩ := id X
  intro x1 I H locs ls h hp hl
  unfold wp_X1_endTurn_71 at h
  refine lv_iinc (v := (x1 + (nI 1))) (lv' := [(1, .int (x1 + (nI 1))), (0, .ref (E.2.1 (8 * j)))]) hx hb dX1_endTurn_71 hl (k := 1) rfl rfl (by decide) rfl (fun ls hl => ?_)
  refine lv_goto (tgt := 23) hx hb dX1_endTurn_74 (by decide) ?_
  exact K23 _ _ _ _ _ h hp (lv_sub hl [1, 0] rfl)
def wp_X1_endTurn_23 (j : Nat) (Q : II → Prop) (k77 : II → Prop) : Nat → Int32 → II → Prop
  | 0, _, _ => False
  | n + 1, x1, I => (((I (8 * j) 2) ≤ x1 → (k77 I)) ∧ (¬ (I (8 * j) 2) ≤ x1 → (((nI 4) ≤ x1 → (k77 I)) ∧ (¬ (nI 4) ≤ x1 → (vp_in x1 4 ∧ ((¬ (I (8 * j + 1) x1.toNatClampNeg) = (nI 5) → (wp_X1_endTurn_71 j Q (fun x1 I => wp_X1_endTurn_23 j Q k77 n x1 I) x1 I)) ∧ ((I (8 * j + 1) x1.toNatClampNeg) = (nI 5) → (vp_in x1 4 ∧ (vp_in x1 4 ∧ (((I (8 * j + 2) x1.toNatClampNeg) ≤ (I (8 * j + 4) x1.toNatClampNeg) → (wp_X1_endTurn_71 j Q (fun x1 I => wp_X1_endTurn_23 j Q k77 n x1 I) x1 I)) ∧ (¬ (I (8 * j + 2) x1.toNatClampNeg) ≤ (I (8 * j + 4) x1.toNatClampNeg) → (vp_in x1 4 ∧ (vp_in x1 4 ∧ ∀ I10 : II, I10 = su I (8 * j + 4) x1.toNatClampNeg ((I (8 * j + 4) x1.toNatClampNeg) + (nI 1)) → (wp_X1_endTurn_71 j Q (fun x1 I => wp_X1_endTurn_23 j Q k77 n x1 I) x1 I10))))))))))))))
set_option maxHeartbeats 4000000 in
set_option maxRecDepth 100000 in
theorem w_X1_endTurn_23 {E : EE} {p : Program} {l : Launch} {e : Env} {s : State} {m : MethodId} {args : Array Value} {below : List Frame} {meth : Method} {c : Code} {Q : II → Prop} {k77 : II → Prop} (X : CX E p s m args meth c cX1_endTurn 2 none RX1) {j : Nat} (hj : j < 37) (K77 : ∀ (I : II) (H : Heap) (locs : List Loc) (ls : Array Slot), k77 I → PP E s H locs I → lv_has ls 2 [(0, .ref (E.2.1 (8 * j)))] → W p l e rmX1_endTurn s m args below meth c H locs 0 0 (MQ below (va_Qv Q (BU E) E.2.2.2.1) args s 0 0 E.2.2.2.1) (F0 m 77 ls [])) : ∀ (n : Nat) (x1 : Int32) (I : II) (H : Heap) (locs : List Loc) (ls : Array Slot), wp_X1_endTurn_23 j Q k77 n x1 I → PP E s H locs I → lv_has ls 2 [(0, .ref (E.2.1 (8 * j))), (1, .int x1)] → W p l e rmX1_endTurn s m args below meth c H locs 0 0 (MQ below (va_Qv Q (BU E) E.2.2.2.1) args s 0 0 E.2.2.2.1) (F0 m 23 ls []) := by
  obtain ⟨⟨hx, hb, hml, hown, hts⟩, hr, hlk, hK, hST, hN⟩ := id X
  intro n
  induction n with
  | zero =>
    intro x1 I H locs ls h hp hl
    exact False.elim h
  | succ n ih =>
    intro x1 I H locs ls h hp hl
    rw [wp_X1_endTurn_23.eq_2] at h
    refine lv_iload_n hx hb dX1_endTurn_23 rfl (lv_at hl 1 rfl) ?_
    refine lv_aload_n hx hb dX1_endTurn_24 rfl (lv_at hl 0 rfl) ?_
    refine f_X1_33 X hp hj dX1_endTurn_25 ?_
    refine lv_icmp_ge (tgt := 77) hx hb dX1_endTurn_28 (by decide) (fun c1 => ?_) (fun c1 => ?_)
    · have h := h.1 c1
      exact K77 _ _ _ _ h hp (lv_sub hl [0] rfl)
    · have h := h.2 c1
      refine lv_iload_n hx hb dX1_endTurn_31 rfl (lv_at hl 1 rfl) ?_
      refine lv_iconst (v := (nI 4)) hx hb dX1_endTurn_32 (by decide) ?_
      refine lv_icmp_ge (tgt := 77) hx hb dX1_endTurn_33 (by decide) (fun c2 => ?_) (fun c2 => ?_)
      · have h := h.1 c2
        exact K77 _ _ _ _ h hp (lv_sub hl [0] rfl)
      · have h := h.2 c2
        refine lv_aload_n hx hb dX1_endTurn_36 rfl (lv_at hl 0 rfl) ?_
        refine f_X1_9 X hp hj dX1_endTurn_37 ?_
        refine lv_iload_n hx hb dX1_endTurn_40 rfl (lv_at hl 1 rfl) ?_
        have hv3 := h.1
        have h := h.2
        refine al_i X hp (ar_1 hj) hv3 dX1_endTurn_41 ?_
        refine lv_iconst (v := (nI 5)) hx hb dX1_endTurn_42 (by decide) ?_
        refine lv_icmp_ne (tgt := 71) hx hb dX1_endTurn_43 (by decide) (fun c4 => ?_) (fun c4 => ?_)
        · have h := h.1 c4
          exact w_X1_endTurn_71 X hj ih _ _ _ _ _ h hp (lv_sub hl [0, 1] rfl)
        · have h := h.2 c4
          refine lv_aload_n hx hb dX1_endTurn_46 rfl (lv_at hl 0 rfl) ?_
          refine f_X1_21 X hp hj dX1_endTurn_47 ?_
          refine lv_iload_n hx hb dX1_endTurn_50 rfl (lv_at hl 1 rfl) ?_
          have hv5 := h.1
          have h := h.2
          refine al_i X hp (ar_4 hj) hv5 dX1_endTurn_51 ?_
          refine lv_aload_n hx hb dX1_endTurn_52 rfl (lv_at hl 0 rfl) ?_
          refine f_X1_15 X hp hj dX1_endTurn_53 ?_
          refine lv_iload_n hx hb dX1_endTurn_56 rfl (lv_at hl 1 rfl) ?_
          have hv6 := h.1
          have h := h.2
          refine al_i X hp (ar_2 hj) hv6 dX1_endTurn_57 ?_
          refine lv_icmp_ge (tgt := 71) hx hb dX1_endTurn_58 (by decide) (fun c7 => ?_) (fun c7 => ?_)
          · have h := h.1 c7
            exact w_X1_endTurn_71 X hj ih _ _ _ _ _ h hp (lv_sub hl [0, 1] rfl)
          · have h := h.2 c7
            refine lv_aload_n hx hb dX1_endTurn_61 rfl (lv_at hl 0 rfl) ?_
            refine f_X1_21 X hp hj dX1_endTurn_62 ?_
            refine lv_iload_n hx hb dX1_endTurn_65 rfl (lv_at hl 1 rfl) ?_
            refine lv_dup2_11 hx hb dX1_endTurn_66 rfl rfl ?_
            have hv8 := h.1
            have h := h.2
            refine al_i X hp (ar_4 hj) hv8 dX1_endTurn_67 ?_
            refine lv_iconst (v := (nI 1)) hx hb dX1_endTurn_68 (by decide) ?_
            refine lv_iadd hx hb dX1_endTurn_69 ?_
            have hv9 := h.1
            have h := h.2
            refine as_i X hp (ar_4 hj) hv9 dX1_endTurn_70 (fun H locs hp => ?_)
            obtain ⟨I10, e11⟩ : ∃ y, y = su I (8 * j + 4) x1.toNatClampNeg ((I (8 * j + 4) x1.toNatClampNeg) + (nI 1)) := ⟨_, rfl⟩
            have hp : PP E s H locs I10 := by rw [e11]; exact hp
            have h := h I10 e11
            exact w_X1_endTurn_71 X hj ih _ _ _ _ _ h hp (lv_sub hl [0, 1] rfl)
def wp_X1_endTurn (j : Nat) (I : II) (Q : II → Prop) : Prop := (((I (8 * j) 1) ≤ 0 → (wp_X1_endTurn_77 j Q I)) ∧ (¬ (I (8 * j) 1) ≤ 0 → (¬ (I (8 * j) 1) = 0 ∧ ((¬ (((I (8 * j) 4) + (nI 1)) - ((I (8 * j) 4) + (nI 1)) / (I (8 * j) 1) * (I (8 * j) 1)) = 0 → (wp_X1_endTurn_77 j Q I)) ∧ ((((I (8 * j) 4) + (nI 1)) - ((I (8 * j) 4) + (nI 1)) / (I (8 * j) 1) * (I (8 * j) 1)) = 0 → (∃ n54, wp_X1_endTurn_23 j Q (fun I => (wp_X1_endTurn_77 j Q I)) n54 (nI 0) I))))))
set_option maxHeartbeats 4000000 in
set_option maxRecDepth 100000 in
theorem w_X1_endTurn_0 {E : EE} {p : Program} {l : Launch} {e : Env} {s : State} {m : MethodId} {args : Array Value} {below : List Frame} {meth : Method} {c : Code} {Q : II → Prop} (X : CX E p s m args meth c cX1_endTurn 2 none RX1) {j : Nat} (hj : j < 37) : ∀ (I : II) (H : Heap) (locs : List Loc) (ls : Array Slot), wp_X1_endTurn j I Q → PP E s H locs I → lv_has ls 2 [(0, .ref (E.2.1 (8 * j)))] → W p l e rmX1_endTurn s m args below meth c H locs 0 0 (MQ below (va_Qv Q (BU E) E.2.2.2.1) args s 0 0 E.2.2.2.1) (F0 m 0 ls []) := by
  obtain ⟨⟨hx, hb, hml, hown, hts⟩, hr, hlk, hK, hST, hN⟩ := id X
  intro I H locs ls h hp hl
  unfold wp_X1_endTurn at h
  refine lv_aload_n hx hb dX1_endTurn_0 rfl (lv_at hl 0 rfl) ?_
  refine f_X1_61 X hp hj dX1_endTurn_1 ?_
  refine lv_if_le (tgt := 77) hx hb dX1_endTurn_4 (by decide) (fun c1 => ?_) (fun c1 => ?_)
  · have h := h.1 c1
    exact w_X1_endTurn_77 X hj  _ _ _ _ h hp (lv_sub hl [0] rfl)
  · have h := h.2 c1
    refine lv_aload_n hx hb dX1_endTurn_7 rfl (lv_at hl 0 rfl) ?_
    refine f_X1_40 X hp hj dX1_endTurn_8 ?_
    refine lv_iconst (v := (nI 1)) hx hb dX1_endTurn_11 (by decide) ?_
    refine lv_iadd hx hb dX1_endTurn_12 ?_
    refine lv_aload_n hx hb dX1_endTurn_13 rfl (lv_at hl 0 rfl) ?_
    refine f_X1_61 X hp hj dX1_endTurn_14 ?_
    have hz2 := h.1
    have h := h.2
    refine lv_irem hx hb dX1_endTurn_17 hz2 ?_
    refine lv_if_ne (tgt := 77) hx hb dX1_endTurn_18 (by decide) (fun c3 => ?_) (fun c3 => ?_)
    · have h := h.1 c3
      exact w_X1_endTurn_77 X hj  _ _ _ _ h hp (lv_sub hl [0] rfl)
    · have h := h.2 c3
      refine lv_iconst (v := (nI 0)) hx hb dX1_endTurn_21 (by decide) ?_
      refine lv_istore_n (lv' := [(1, .int (nI 0)), (0, .ref (E.2.1 (8 * j)))]) hx hb dX1_endTurn_22 rfl hl (by decide) rfl (fun ls hl => ?_)
      obtain ⟨n54, h⟩ := h
      refine w_X1_endTurn_23 X hj ?_ n54 _ _ _ _ _ h hp (lv_sub hl [1, 0] rfl)
      · intro I H locs ls h hp hl
        exact w_X1_endTurn_77 X hj  _ _ _ _ h hp (lv_sub hl [0] rfl)
set_option maxRecDepth 100000 in
theorem C_X1_endTurn {E : EE} {l : Launch} {j : Nat} (hj : j < 37) {I : II} {Q : II → Prop} (h : wp_X1_endTurn j I Q) : Met l yX1_endTurn (Cond.code yX1_endTurn cX1_endTurn 2 none :: lwT) rmX1_endTurn (va_Pc [.ref (E.2.1 (8 * j))] (PU E I)) (va_Qv Q (BU E) E.2.2.2.1) 0 0 E.2.2.2.1 :=
  ofWalk [.ref (E.2.1 (8 * j))] (by decide) tw_c_X1_endTurn (Nat.le_of_ble_eq_true rfl) (fun p e s m below meth c ls X hp hl => w_X1_endTurn_0 X hj _ _ _ _ h hp hl)
abbrev rmX1_passTurn : Room := { frames := 3, cells := 0, slots := 0, locals := 69 }
theorem vf_X1_passTurn : VF yX1_passTurn RX1 cX1_passTurn 2 (some .int) 0 := ⟨tw_in_X1, tw_im_X1_passTurn, tw_se_X1_passTurn, tw_c_X1_passTurn, by decide, by decide, by decide +kernel⟩
def wp_X1_passTurn_21 (j : Nat) (Q : Int32 → II → Prop) (v0 : Int32) (I : II) : Prop := (wp_X1_endTurn j I (fun I1 => (Q v0 I1)))
set_option maxHeartbeats 4000000 in
set_option maxRecDepth 100000 in
theorem w_X1_passTurn_21 {E : EE} {p : Program} {l : Launch} {e : Env} {s : State} {m : MethodId} {args : Array Value} {below : List Frame} {meth : Method} {c : Code} {Q : Int32 → II → Prop} (X : CX E p s m args meth c cX1_passTurn 2 (some .int) RX1) {j : Nat} (hj : j < 37) : ∀ (v0 : Int32) (I : II) (H : Heap) (locs : List Loc) (ls : Array Slot), wp_X1_passTurn_21 j Q v0 I → PP E s H locs I → lv_has ls 2 [(0, .ref (E.2.1 (8 * j)))] → W p l e rmX1_passTurn s m args below meth c H locs 0 0 (MQ below (va_Qi Q (BU E) E.2.2.2.1) args s 0 0 E.2.2.2.1) (F0 m 21 ls [.int v0]) := by
  obtain ⟨⟨hx, hb, hml, hown, hts⟩, hr, hlk, hK, hST, hN⟩ := id X
  intro v0 I H locs ls h hp hl
  unfold wp_X1_passTurn_21 at h
  refine lv_istore_n (lv' := [(1, .int v0), (0, .ref (E.2.1 (8 * j)))]) hx hb dX1_passTurn_21 rfl hl (by decide) rfl (fun ls hl => ?_)
  refine lv_aload_n hx hb dX1_passTurn_22 rfl (lv_at hl 1 rfl) ?_
  refine kv (kV (As := []) (rest := []) X hp (C_X1_endTurn hj h) tw_ml_X1_115 vf_X1_endTurn ⟨rfl, rfl, Nat.le_of_ble_eq_true rfl, Nat.le_of_ble_eq_true rfl⟩ (pr_rcvb X hp hj) rfl hl.1 rfl (Nat.le_of_ble_eq_true rfl) dX1_passTurn_23) hp (fun I1 H locs h hp => ?_)
  refine lv_iload_n hx hb dX1_passTurn_26 rfl (lv_at hl 0 rfl) ?_
  exact rt_i X hp h dX1_passTurn_27
def wp_X1_passTurn (j : Nat) (I : II) (Q : Int32 → II → Prop) : Prop := (((I (8 * j) 7) ≤ 0 → (wp_X1_passTurn_21 j Q (-nI 1000000) I)) ∧ (¬ (I (8 * j) 7) ≤ 0 → (wp_X1_leave j (nI 0) I (fun r3 I2 => (wp_X1_attend j r3 I2 (fun r5 I4 => (wp_X1_passTurn_21 j Q r5 I4)))))))
set_option maxHeartbeats 4000000 in
set_option maxRecDepth 100000 in
theorem w_X1_passTurn_0 {E : EE} {p : Program} {l : Launch} {e : Env} {s : State} {m : MethodId} {args : Array Value} {below : List Frame} {meth : Method} {c : Code} {Q : Int32 → II → Prop} (X : CX E p s m args meth c cX1_passTurn 2 (some .int) RX1) {j : Nat} (hj : j < 37) : ∀ (I : II) (H : Heap) (locs : List Loc) (ls : Array Slot), wp_X1_passTurn j I Q → PP E s H locs I → lv_has ls 2 [(0, .ref (E.2.1 (8 * j)))] → W p l e rmX1_passTurn s m args below meth c H locs 0 0 (MQ below (va_Qi Q (BU E) E.2.2.2.1) args s 0 0 E.2.2.2.1) (F0 m 0 ls []) := by
  obtain ⟨⟨hx, hb, hml, hown, hts⟩, hr, hlk, hK, hST, hN⟩ := id X
  intro I H locs ls h hp hl
  unfold wp_X1_passTurn at h
  refine lv_aload_n hx hb dX1_passTurn_0 rfl (lv_at hl 0 rfl) ?_
  refine f_X1_49 X hp hj dX1_passTurn_1 ?_
  refine lv_if_le (tgt := 19) hx hb dX1_passTurn_4 (by decide) (fun c1 => ?_) (fun c1 => ?_)
  · have h := h.1 c1
    refine lv_ldc (v := (-nI 1000000)) hx hb hown (hts _ tw_k_X1_68) dX1_passTurn_19 ?_
    exact w_X1_passTurn_21 X hj  _ _ _ _ _ h hp (lv_sub hl [0] rfl)
  · have h := h.2 c1
    refine lv_aload_n hx hb dX1_passTurn_7 rfl (lv_at hl 0 rfl) ?_
    refine lv_aload_n hx hb dX1_passTurn_8 rfl (lv_at hl 0 rfl) ?_
    refine lv_iconst (v := (nI 0)) hx hb dX1_passTurn_9 (by decide) ?_
    refine ki (kV (As := [.int (nI 0)]) (rest := [.ref (E.2.1 (8 * j))]) X hp (C_X1_leave hj h) tw_ml_X1_109 vf_X1_leave ⟨rfl, rfl, Nat.le_of_ble_eq_true rfl, Nat.le_of_ble_eq_true rfl⟩ (pr_rcvb X hp hj) rfl hl.1 rfl (Nat.le_of_ble_eq_true rfl) dX1_passTurn_10) hp (fun r3 I2 H locs h hp => ?_)
    refine ki (kV (As := [.int r3]) (rest := []) X hp (C_X1_attend hj h) tw_ml_X1_112 vf_X1_attend ⟨rfl, rfl, Nat.le_of_ble_eq_true rfl, Nat.le_of_ble_eq_true rfl⟩ (pr_rcvb X hp hj) rfl hl.1 rfl (Nat.le_of_ble_eq_true rfl) dX1_passTurn_13) hp (fun r5 I4 H locs h hp => ?_)
    refine lv_goto (tgt := 21) hx hb dX1_passTurn_16 (by decide) ?_
    exact w_X1_passTurn_21 X hj  _ _ _ _ _ h hp (lv_sub hl [0] rfl)
set_option maxRecDepth 100000 in
theorem C_X1_passTurn {E : EE} {l : Launch} {j : Nat} (hj : j < 37) {I : II} {Q : Int32 → II → Prop} (h : wp_X1_passTurn j I Q) : Met l yX1_passTurn (Cond.code yX1_passTurn cX1_passTurn 2 (some .int) :: lwT) rmX1_passTurn (va_Pc [.ref (E.2.1 (8 * j))] (PU E I)) (va_Qi Q (BU E) E.2.2.2.1) 0 0 E.2.2.2.1 :=
  ofWalk [.ref (E.2.1 (8 * j))] (by decide) tw_c_X1_passTurn (Nat.le_of_ble_eq_true rfl) (fun p e s m below meth c ls X hp hl => w_X1_passTurn_0 X hj _ _ _ _ h hp hl)
abbrev rmX1_leftTogether : Room := { frames := 0, cells := 0, slots := 0, locals := 0 }
theorem vf_X1_leftTogether : VF yX1_leftTogether RX1 cX1_leftTogether 3 (some .int) 0 := ⟨tw_in_X1, tw_im_X1_leftTogether, tw_se_X1_leftTogether, tw_c_X1_leftTogether, by decide, by decide, by decide +kernel⟩
def wp_X1_leftTogether_4 (j : Nat) (Q : Int32 → II → Prop) (k32 : Int32 → II → Prop) : Nat → Int32 → Int32 → II → Prop
  | 0, _, _, _ => False
  | n + 1, x1, x2, I => (((I (8 * j) 2) ≤ x2 → (k32 x1 I)) ∧ (¬ (I (8 * j) 2) ≤ x2 → (((nI 4) ≤ x2 → (k32 x1 I)) ∧ (¬ (nI 4) ≤ x2 → (vp_in x2 4 ∧ (wp_X1_leftTogether_4 j Q k32 n (x1 + (I (8 * j + 4) x2.toNatClampNeg)) (x2 + (nI 1)) I))))))
set_option maxHeartbeats 4000000 in
set_option maxRecDepth 100000 in
theorem w_X1_leftTogether_4 {E : EE} {p : Program} {l : Launch} {e : Env} {s : State} {m : MethodId} {args : Array Value} {below : List Frame} {meth : Method} {c : Code} {Q : Int32 → II → Prop} {k32 : Int32 → II → Prop} (X : CX E p s m args meth c cX1_leftTogether 3 (some .int) RX1) {j : Nat} (hj : j < 37) (K32 : ∀ (x1 : Int32) (I : II) (H : Heap) (locs : List Loc) (ls : Array Slot), k32 x1 I → PP E s H locs I → lv_has ls 3 [(1, .int x1)] → W p l e rmX1_leftTogether s m args below meth c H locs 0 0 (MQ below (va_Qi Q (BU E) E.2.2.2.1) args s 0 0 E.2.2.2.1) (F0 m 32 ls [])) : ∀ (n : Nat) (x1 : Int32) (x2 : Int32) (I : II) (H : Heap) (locs : List Loc) (ls : Array Slot), wp_X1_leftTogether_4 j Q k32 n x1 x2 I → PP E s H locs I → lv_has ls 3 [(0, .ref (E.2.1 (8 * j))), (1, .int x1), (2, .int x2)] → W p l e rmX1_leftTogether s m args below meth c H locs 0 0 (MQ below (va_Qi Q (BU E) E.2.2.2.1) args s 0 0 E.2.2.2.1) (F0 m 4 ls []) := by
  obtain ⟨⟨hx, hb, hml, hown, hts⟩, hr, hlk, hK, hST, hN⟩ := id X
  intro n
  induction n with
  | zero =>
    intro x1 x2 I H locs ls h hp hl
    exact False.elim h
  | succ n ih =>
    intro x1 x2 I H locs ls h hp hl
    rw [wp_X1_leftTogether_4.eq_2] at h
    refine lv_iload_n hx hb dX1_leftTogether_4 rfl (lv_at hl 2 rfl) ?_
    refine lv_aload_n hx hb dX1_leftTogether_5 rfl (lv_at hl 0 rfl) ?_
    refine f_X1_33 X hp hj dX1_leftTogether_6 ?_
    refine lv_icmp_ge (tgt := 32) hx hb dX1_leftTogether_9 (by decide) (fun c1 => ?_) (fun c1 => ?_)
    · have h := h.1 c1
      exact K32 _ _ _ _ _ h hp (lv_sub hl [1] rfl)
    · have h := h.2 c1
      refine lv_iload_n hx hb dX1_leftTogether_12 rfl (lv_at hl 2 rfl) ?_
      refine lv_iconst (v := (nI 4)) hx hb dX1_leftTogether_13 (by decide) ?_
      refine lv_icmp_ge (tgt := 32) hx hb dX1_leftTogether_14 (by decide) (fun c2 => ?_) (fun c2 => ?_)
      · have h := h.1 c2
        exact K32 _ _ _ _ _ h hp (lv_sub hl [1] rfl)
      · have h := h.2 c2
        refine lv_iload_n hx hb dX1_leftTogether_17 rfl (lv_at hl 1 rfl) ?_
        refine lv_aload_n hx hb dX1_leftTogether_18 rfl (lv_at hl 0 rfl) ?_
        refine f_X1_21 X hp hj dX1_leftTogether_19 ?_
        refine lv_iload_n hx hb dX1_leftTogether_22 rfl (lv_at hl 2 rfl) ?_
        have hv3 := h.1
        have h := h.2
        refine al_i X hp (ar_4 hj) hv3 dX1_leftTogether_23 ?_
        refine lv_iadd hx hb dX1_leftTogether_24 ?_
        refine lv_istore_n (lv' := [(1, .int (x1 + (I (8 * j + 4) x2.toNatClampNeg))), (0, .ref (E.2.1 (8 * j))), (2, .int x2)]) hx hb dX1_leftTogether_25 rfl hl (by decide) rfl (fun ls hl => ?_)
        refine lv_iinc (v := (x2 + (nI 1))) (lv' := [(2, .int (x2 + (nI 1))), (1, .int (x1 + (I (8 * j + 4) x2.toNatClampNeg))), (0, .ref (E.2.1 (8 * j)))]) hx hb dX1_leftTogether_26 hl (k := 2) rfl rfl (by decide) rfl (fun ls hl => ?_)
        refine lv_goto (tgt := 4) hx hb dX1_leftTogether_29 (by decide) ?_
        exact ih _ _ _ _ _ _ h hp (lv_sub hl [2, 1, 0] rfl)
def wp_X1_leftTogether (j : Nat) (I : II) (Q : Int32 → II → Prop) : Prop := (∃ n51, wp_X1_leftTogether_4 j Q (fun x1 I => (Q x1 I)) n51 (nI 0) (nI 0) I)
set_option maxHeartbeats 4000000 in
set_option maxRecDepth 100000 in
theorem w_X1_leftTogether_0 {E : EE} {p : Program} {l : Launch} {e : Env} {s : State} {m : MethodId} {args : Array Value} {below : List Frame} {meth : Method} {c : Code} {Q : Int32 → II → Prop} (X : CX E p s m args meth c cX1_leftTogether 3 (some .int) RX1) {j : Nat} (hj : j < 37) : ∀ (I : II) (H : Heap) (locs : List Loc) (ls : Array Slot), wp_X1_leftTogether j I Q → PP E s H locs I → lv_has ls 3 [(0, .ref (E.2.1 (8 * j)))] → W p l e rmX1_leftTogether s m args below meth c H locs 0 0 (MQ below (va_Qi Q (BU E) E.2.2.2.1) args s 0 0 E.2.2.2.1) (F0 m 0 ls []) := by
  obtain ⟨⟨hx, hb, hml, hown, hts⟩, hr, hlk, hK, hST, hN⟩ := id X
  intro I H locs ls h hp hl
  unfold wp_X1_leftTogether at h
  refine lv_iconst (v := (nI 0)) hx hb dX1_leftTogether_0 (by decide) ?_
  refine lv_istore_n (lv' := [(1, .int (nI 0)), (0, .ref (E.2.1 (8 * j)))]) hx hb dX1_leftTogether_1 rfl hl (by decide) rfl (fun ls hl => ?_)
  refine lv_iconst (v := (nI 0)) hx hb dX1_leftTogether_2 (by decide) ?_
  refine lv_istore_n (lv' := [(2, .int (nI 0)), (1, .int (nI 0)), (0, .ref (E.2.1 (8 * j)))]) hx hb dX1_leftTogether_3 rfl hl (by decide) rfl (fun ls hl => ?_)
  obtain ⟨n51, h⟩ := h
  refine w_X1_leftTogether_4 X hj ?_ n51 _ _ _ _ _ _ h hp (lv_sub hl [2, 1, 0] rfl)
  · intro x1 I H locs ls h hp hl
    refine lv_iload_n hx hb dX1_leftTogether_32 rfl (lv_at hl 0 rfl) ?_
    exact rt_i X hp h dX1_leftTogether_33
set_option maxRecDepth 100000 in
theorem C_X1_leftTogether {E : EE} {l : Launch} {j : Nat} (hj : j < 37) {I : II} {Q : Int32 → II → Prop} (h : wp_X1_leftTogether j I Q) : Met l yX1_leftTogether (Cond.code yX1_leftTogether cX1_leftTogether 3 (some .int) :: lwT) rmX1_leftTogether (va_Pc [.ref (E.2.1 (8 * j))] (PU E I)) (va_Qi Q (BU E) E.2.2.2.1) 0 0 E.2.2.2.1 :=
  ofWalk [.ref (E.2.1 (8 * j))] (by decide) tw_c_X1_leftTogether (Nat.le_of_ble_eq_true rfl) (fun p e s m below meth c ls X hp hl => w_X1_leftTogether_0 X hj _ _ _ _ h hp hl)
abbrev rmX1_leastLeft : Room := { frames := 1, cells := 0, slots := 0, locals := 13 }
theorem vf_X1_leastLeft : VF yX1_leastLeft RX1 cX1_leastLeft 3 (some .int) 0 := ⟨tw_in_X1, tw_im_X1_leastLeft, tw_se_X1_leastLeft, tw_c_X1_leastLeft, by decide, by decide, by decide +kernel⟩
def wp_X1_leastLeft_5 (j : Nat) (Q : Int32 → II → Prop) (k35 : Int32 → II → Prop) : Nat → Int32 → Int32 → II → Prop
  | 0, _, _, _ => False
  | n + 1, x1, x2, I => (((I (8 * j) 2) ≤ x2 → (k35 x1 I)) ∧ (¬ (I (8 * j) 2) ≤ x2 → (((nI 4) ≤ x2 → (k35 x1 I)) ∧ (¬ (nI 4) ≤ x2 → (vp_in x2 4 ∧ (wp_X1_leastLeft_5 j Q k35 n (if (I (8 * j + 4) x2.toNatClampNeg) < x1 then (I (8 * j + 4) x2.toNatClampNeg) else x1) (x2 + (nI 1)) I))))))
set_option maxHeartbeats 4000000 in
set_option maxRecDepth 100000 in
theorem w_X1_leastLeft_5 {E : EE} {p : Program} {l : Launch} {e : Env} {s : State} {m : MethodId} {args : Array Value} {below : List Frame} {meth : Method} {c : Code} {Q : Int32 → II → Prop} {k35 : Int32 → II → Prop} (X : CX E p s m args meth c cX1_leastLeft 3 (some .int) RX1) {j : Nat} (hj : j < 37) (K35 : ∀ (x1 : Int32) (I : II) (H : Heap) (locs : List Loc) (ls : Array Slot), k35 x1 I → PP E s H locs I → lv_has ls 3 [(1, .int x1)] → W p l e rmX1_leastLeft s m args below meth c H locs 0 0 (MQ below (va_Qi Q (BU E) E.2.2.2.1) args s 0 0 E.2.2.2.1) (F0 m 35 ls [])) : ∀ (n : Nat) (x1 : Int32) (x2 : Int32) (I : II) (H : Heap) (locs : List Loc) (ls : Array Slot), wp_X1_leastLeft_5 j Q k35 n x1 x2 I → PP E s H locs I → lv_has ls 3 [(0, .ref (E.2.1 (8 * j))), (1, .int x1), (2, .int x2)] → W p l e rmX1_leastLeft s m args below meth c H locs 0 0 (MQ below (va_Qi Q (BU E) E.2.2.2.1) args s 0 0 E.2.2.2.1) (F0 m 5 ls []) := by
  obtain ⟨⟨hx, hb, hml, hown, hts⟩, hr, hlk, hK, hST, hN⟩ := id X
  intro n
  induction n with
  | zero =>
    intro x1 x2 I H locs ls h hp hl
    exact False.elim h
  | succ n ih =>
    intro x1 x2 I H locs ls h hp hl
    rw [wp_X1_leastLeft_5.eq_2] at h
    refine lv_iload_n hx hb dX1_leastLeft_5 rfl (lv_at hl 2 rfl) ?_
    refine lv_aload_n hx hb dX1_leastLeft_6 rfl (lv_at hl 0 rfl) ?_
    refine f_X1_33 X hp hj dX1_leastLeft_7 ?_
    refine lv_icmp_ge (tgt := 35) hx hb dX1_leastLeft_10 (by decide) (fun c1 => ?_) (fun c1 => ?_)
    · have h := h.1 c1
      exact K35 _ _ _ _ _ h hp (lv_sub hl [1] rfl)
    · have h := h.2 c1
      refine lv_iload_n hx hb dX1_leastLeft_13 rfl (lv_at hl 2 rfl) ?_
      refine lv_iconst (v := (nI 4)) hx hb dX1_leastLeft_14 (by decide) ?_
      refine lv_icmp_ge (tgt := 35) hx hb dX1_leastLeft_15 (by decide) (fun c2 => ?_) (fun c2 => ?_)
      · have h := h.1 c2
        exact K35 _ _ _ _ _ h hp (lv_sub hl [1] rfl)
      · have h := h.2 c2
        refine lv_iload_n hx hb dX1_leastLeft_18 rfl (lv_at hl 1 rfl) ?_
        refine lv_aload_n hx hb dX1_leastLeft_19 rfl (lv_at hl 0 rfl) ?_
        refine f_X1_21 X hp hj dX1_leastLeft_20 ?_
        refine lv_iload_n hx hb dX1_leastLeft_23 rfl (lv_at hl 2 rfl) ?_
        have hv3 := h.1
        have h := h.2
        refine al_i X hp (ar_4 hj) hv3 dX1_leastLeft_24 ?_
        refine mn_i X tw_ml_X1_104 hl.1 ⟨Nat.le_of_ble_eq_true rfl, Nat.le_of_ble_eq_true rfl⟩ dX1_leastLeft_25 ?_
        refine lv_istore_n (lv' := [(1, .int (if (I (8 * j + 4) x2.toNatClampNeg) < x1 then (I (8 * j + 4) x2.toNatClampNeg) else x1)), (0, .ref (E.2.1 (8 * j))), (2, .int x2)]) hx hb dX1_leastLeft_28 rfl hl (by decide) rfl (fun ls hl => ?_)
        refine lv_iinc (v := (x2 + (nI 1))) (lv' := [(2, .int (x2 + (nI 1))), (1, .int (if (I (8 * j + 4) x2.toNatClampNeg) < x1 then (I (8 * j + 4) x2.toNatClampNeg) else x1)), (0, .ref (E.2.1 (8 * j)))]) hx hb dX1_leastLeft_29 hl (k := 2) rfl rfl (by decide) rfl (fun ls hl => ?_)
        refine lv_goto (tgt := 5) hx hb dX1_leastLeft_32 (by decide) ?_
        exact ih _ _ _ _ _ _ h hp (lv_sub hl [2, 1, 0] rfl)
def wp_X1_leastLeft (j : Nat) (I : II) (Q : Int32 → II → Prop) : Prop := (∃ n51, wp_X1_leastLeft_5 j Q (fun x1 I => (Q x1 I)) n51 (nI 99) (nI 0) I)
set_option maxHeartbeats 4000000 in
set_option maxRecDepth 100000 in
theorem w_X1_leastLeft_0 {E : EE} {p : Program} {l : Launch} {e : Env} {s : State} {m : MethodId} {args : Array Value} {below : List Frame} {meth : Method} {c : Code} {Q : Int32 → II → Prop} (X : CX E p s m args meth c cX1_leastLeft 3 (some .int) RX1) {j : Nat} (hj : j < 37) : ∀ (I : II) (H : Heap) (locs : List Loc) (ls : Array Slot), wp_X1_leastLeft j I Q → PP E s H locs I → lv_has ls 3 [(0, .ref (E.2.1 (8 * j)))] → W p l e rmX1_leastLeft s m args below meth c H locs 0 0 (MQ below (va_Qi Q (BU E) E.2.2.2.1) args s 0 0 E.2.2.2.1) (F0 m 0 ls []) := by
  obtain ⟨⟨hx, hb, hml, hown, hts⟩, hr, hlk, hK, hST, hN⟩ := id X
  intro I H locs ls h hp hl
  unfold wp_X1_leastLeft at h
  refine lv_bipush (v := (nI 99)) hx hb dX1_leastLeft_0 (by decide) ?_
  refine lv_istore_n (lv' := [(1, .int (nI 99)), (0, .ref (E.2.1 (8 * j)))]) hx hb dX1_leastLeft_2 rfl hl (by decide) rfl (fun ls hl => ?_)
  refine lv_iconst (v := (nI 0)) hx hb dX1_leastLeft_3 (by decide) ?_
  refine lv_istore_n (lv' := [(2, .int (nI 0)), (1, .int (nI 99)), (0, .ref (E.2.1 (8 * j)))]) hx hb dX1_leastLeft_4 rfl hl (by decide) rfl (fun ls hl => ?_)
  obtain ⟨n51, h⟩ := h
  refine w_X1_leastLeft_5 X hj ?_ n51 _ _ _ _ _ _ h hp (lv_sub hl [2, 1, 0] rfl)
  · intro x1 I H locs ls h hp hl
    refine lv_iload_n hx hb dX1_leastLeft_35 rfl (lv_at hl 0 rfl) ?_
    exact rt_i X hp h dX1_leastLeft_36
set_option maxRecDepth 100000 in
theorem C_X1_leastLeft {E : EE} {l : Launch} {j : Nat} (hj : j < 37) {I : II} {Q : Int32 → II → Prop} (h : wp_X1_leastLeft j I Q) : Met l yX1_leastLeft (Cond.code yX1_leastLeft cX1_leastLeft 3 (some .int) :: lwT) rmX1_leastLeft (va_Pc [.ref (E.2.1 (8 * j))] (PU E I)) (va_Qi Q (BU E) E.2.2.2.1) 0 0 E.2.2.2.1 :=
  ofWalk [.ref (E.2.1 (8 * j))] (by decide) tw_c_X1_leastLeft (Nat.le_of_ble_eq_true rfl) (fun p e s m below meth c ls X hp hl => w_X1_leastLeft_0 X hj _ _ _ _ h hp hl)
abbrev rmX1_firstWithInfancy : Room := { frames := 0, cells := 0, slots := 0, locals := 0 }
theorem vf_X1_firstWithInfancy : VF yX1_firstWithInfancy RX1 cX1_firstWithInfancy 2 (some .int) 0 := ⟨tw_in_X1, tw_im_X1_firstWithInfancy, tw_se_X1_firstWithInfancy, tw_c_X1_firstWithInfancy, by decide, by decide, by decide +kernel⟩
def wp_X1_firstWithInfancy_2 (j : Nat) (Q : Int32 → II → Prop) (k28 : Int32 → II → Prop) (k36 : II → Prop) : Nat → Int32 → II → Prop
  | 0, _, _ => False
  | n + 1, x1, I => (((I (8 * j) 2) ≤ x1 → (k36 I)) ∧ (¬ (I (8 * j) 2) ≤ x1 → (((nI 4) ≤ x1 → (k36 I)) ∧ (¬ (nI 4) ≤ x1 → (vp_in x1 4 ∧ (((I (8 * j) 0) < (I (8 * j + 4) x1.toNatClampNeg) → (wp_X1_firstWithInfancy_2 j Q k28 k36 n (x1 + (nI 1)) I)) ∧ (¬ (I (8 * j) 0) < (I (8 * j + 4) x1.toNatClampNeg) → (k28 x1 I))))))))
set_option maxHeartbeats 4000000 in
set_option maxRecDepth 100000 in
theorem w_X1_firstWithInfancy_2 {E : EE} {p : Program} {l : Launch} {e : Env} {s : State} {m : MethodId} {args : Array Value} {below : List Frame} {meth : Method} {c : Code} {Q : Int32 → II → Prop} {k28 : Int32 → II → Prop} {k36 : II → Prop} (X : CX E p s m args meth c cX1_firstWithInfancy 2 (some .int) RX1) {j : Nat} (hj : j < 37) (K28 : ∀ (x1 : Int32) (I : II) (H : Heap) (locs : List Loc) (ls : Array Slot), k28 x1 I → PP E s H locs I → lv_has ls 2 [(1, .int x1)] → W p l e rmX1_firstWithInfancy s m args below meth c H locs 0 0 (MQ below (va_Qi Q (BU E) E.2.2.2.1) args s 0 0 E.2.2.2.1) (F0 m 28 ls [])) (K36 : ∀ (I : II) (H : Heap) (locs : List Loc) (ls : Array Slot), k36 I → PP E s H locs I → lv_has ls 2 [] → W p l e rmX1_firstWithInfancy s m args below meth c H locs 0 0 (MQ below (va_Qi Q (BU E) E.2.2.2.1) args s 0 0 E.2.2.2.1) (F0 m 36 ls [])) : ∀ (n : Nat) (x1 : Int32) (I : II) (H : Heap) (locs : List Loc) (ls : Array Slot), wp_X1_firstWithInfancy_2 j Q k28 k36 n x1 I → PP E s H locs I → lv_has ls 2 [(0, .ref (E.2.1 (8 * j))), (1, .int x1)] → W p l e rmX1_firstWithInfancy s m args below meth c H locs 0 0 (MQ below (va_Qi Q (BU E) E.2.2.2.1) args s 0 0 E.2.2.2.1) (F0 m 2 ls []) := by
  obtain ⟨⟨hx, hb, hml, hown, hts⟩, hr, hlk, hK, hST, hN⟩ := id X
  intro n
  induction n with
  | zero =>
    intro x1 I H locs ls h hp hl
    exact False.elim h
  | succ n ih =>
    intro x1 I H locs ls h hp hl
    rw [wp_X1_firstWithInfancy_2.eq_2] at h
    refine lv_iload_n hx hb dX1_firstWithInfancy_2 rfl (lv_at hl 1 rfl) ?_
    refine lv_aload_n hx hb dX1_firstWithInfancy_3 rfl (lv_at hl 0 rfl) ?_
    refine f_X1_33 X hp hj dX1_firstWithInfancy_4 ?_
    refine lv_icmp_ge (tgt := 36) hx hb dX1_firstWithInfancy_7 (by decide) (fun c1 => ?_) (fun c1 => ?_)
    · have h := h.1 c1
      exact K36 _ _ _ _ h hp (lv_sub hl [] rfl)
    · have h := h.2 c1
      refine lv_iload_n hx hb dX1_firstWithInfancy_10 rfl (lv_at hl 1 rfl) ?_
      refine lv_iconst (v := (nI 4)) hx hb dX1_firstWithInfancy_11 (by decide) ?_
      refine lv_icmp_ge (tgt := 36) hx hb dX1_firstWithInfancy_12 (by decide) (fun c2 => ?_) (fun c2 => ?_)
      · have h := h.1 c2
        exact K36 _ _ _ _ h hp (lv_sub hl [] rfl)
      · have h := h.2 c2
        refine lv_aload_n hx hb dX1_firstWithInfancy_15 rfl (lv_at hl 0 rfl) ?_
        refine f_X1_21 X hp hj dX1_firstWithInfancy_16 ?_
        refine lv_iload_n hx hb dX1_firstWithInfancy_19 rfl (lv_at hl 1 rfl) ?_
        have hv3 := h.1
        have h := h.2
        refine al_i X hp (ar_4 hj) hv3 dX1_firstWithInfancy_20 ?_
        refine lv_aload_n hx hb dX1_firstWithInfancy_21 rfl (lv_at hl 0 rfl) ?_
        refine f_X1_58 X hp hj dX1_firstWithInfancy_22 ?_
        refine lv_icmp_gt (tgt := 30) hx hb dX1_firstWithInfancy_25 (by decide) (fun c4 => ?_) (fun c4 => ?_)
        · have h := h.1 c4
          refine lv_iinc (v := (x1 + (nI 1))) (lv' := [(1, .int (x1 + (nI 1))), (0, .ref (E.2.1 (8 * j)))]) hx hb dX1_firstWithInfancy_30 hl (k := 1) rfl rfl (by decide) rfl (fun ls hl => ?_)
          refine lv_goto (tgt := 2) hx hb dX1_firstWithInfancy_33 (by decide) ?_
          exact ih _ _ _ _ _ h hp (lv_sub hl [1, 0] rfl)
        · have h := h.2 c4
          exact K28 _ _ _ _ _ h hp (lv_sub hl [1] rfl)
def wp_X1_firstWithInfancy (j : Nat) (I : II) (Q : Int32 → II → Prop) : Prop := (∃ n101, wp_X1_firstWithInfancy_2 j Q (fun x1 I => (Q x1 I)) (fun I => (Q (-nI 1000000) I)) n101 (nI 0) I)
set_option maxHeartbeats 4000000 in
set_option maxRecDepth 100000 in
theorem w_X1_firstWithInfancy_0 {E : EE} {p : Program} {l : Launch} {e : Env} {s : State} {m : MethodId} {args : Array Value} {below : List Frame} {meth : Method} {c : Code} {Q : Int32 → II → Prop} (X : CX E p s m args meth c cX1_firstWithInfancy 2 (some .int) RX1) {j : Nat} (hj : j < 37) : ∀ (I : II) (H : Heap) (locs : List Loc) (ls : Array Slot), wp_X1_firstWithInfancy j I Q → PP E s H locs I → lv_has ls 2 [(0, .ref (E.2.1 (8 * j)))] → W p l e rmX1_firstWithInfancy s m args below meth c H locs 0 0 (MQ below (va_Qi Q (BU E) E.2.2.2.1) args s 0 0 E.2.2.2.1) (F0 m 0 ls []) := by
  obtain ⟨⟨hx, hb, hml, hown, hts⟩, hr, hlk, hK, hST, hN⟩ := id X
  intro I H locs ls h hp hl
  unfold wp_X1_firstWithInfancy at h
  refine lv_iconst (v := (nI 0)) hx hb dX1_firstWithInfancy_0 (by decide) ?_
  refine lv_istore_n (lv' := [(1, .int (nI 0)), (0, .ref (E.2.1 (8 * j)))]) hx hb dX1_firstWithInfancy_1 rfl hl (by decide) rfl (fun ls hl => ?_)
  obtain ⟨n101, h⟩ := h
  refine w_X1_firstWithInfancy_2 X hj ?_ ?_ n101 _ _ _ _ _ h hp (lv_sub hl [1, 0] rfl)
  · intro x1 I H locs ls h hp hl
    refine lv_iload_n hx hb dX1_firstWithInfancy_28 rfl (lv_at hl 0 rfl) ?_
    exact rt_i X hp h dX1_firstWithInfancy_29
  · intro I H locs ls h hp hl
    refine lv_ldc (v := (-nI 1000000)) hx hb hown (hts _ tw_k_X1_68) dX1_firstWithInfancy_36 ?_
    exact rt_i X hp h dX1_firstWithInfancy_38
set_option maxRecDepth 100000 in
theorem C_X1_firstWithInfancy {E : EE} {l : Launch} {j : Nat} (hj : j < 37) {I : II} {Q : Int32 → II → Prop} (h : wp_X1_firstWithInfancy j I Q) : Met l yX1_firstWithInfancy (Cond.code yX1_firstWithInfancy cX1_firstWithInfancy 2 (some .int) :: lwT) rmX1_firstWithInfancy (va_Pc [.ref (E.2.1 (8 * j))] (PU E I)) (va_Qi Q (BU E) E.2.2.2.1) 0 0 E.2.2.2.1 :=
  ofWalk [.ref (E.2.1 (8 * j))] (by decide) tw_c_X1_firstWithInfancy (Nat.le_of_ble_eq_true rfl) (fun p e s m below meth c ls X hp hl => w_X1_firstWithInfancy_0 X hj _ _ _ _ h hp hl)
abbrev rmX1_cheapestFor : Room := { frames := 1, cells := 0, slots := 0, locals := 23 }
theorem vf_X1_cheapestFor : VF yX1_cheapestFor RX1 cX1_cheapestFor 4 (some .int) 1 := ⟨tw_in_X1, tw_im_X1_cheapestFor, tw_se_X1_cheapestFor, tw_c_X1_cheapestFor, by decide, by decide, by decide +kernel⟩
def wp_X1_cheapestFor_34 (j : Nat) (Q : Int32 → II → Prop) (k4 : Int32 → Int32 → Int32 → II → Prop) (x1 : Int32) (x2 : Int32) (x3 : Int32) (I : II) : Prop := (k4 x1 x2 (x3 + (nI 1)) I)
set_option maxHeartbeats 4000000 in
set_option maxRecDepth 100000 in
theorem w_X1_cheapestFor_34 {E : EE} {p : Program} {l : Launch} {e : Env} {s : State} {m : MethodId} {args : Array Value} {below : List Frame} {meth : Method} {c : Code} {Q : Int32 → II → Prop} {k4 : Int32 → Int32 → Int32 → II → Prop} (X : CX E p s m args meth c cX1_cheapestFor 4 (some .int) RX1) {j : Nat} (hj : j < 37) (K4 : ∀ (x1 : Int32) (x2 : Int32) (x3 : Int32) (I : II) (H : Heap) (locs : List Loc) (ls : Array Slot), k4 x1 x2 x3 I → PP E s H locs I → lv_has ls 4 [(0, .ref (E.2.1 (8 * j))), (1, .int x1), (2, .int x2), (3, .int x3)] → W p l e rmX1_cheapestFor s m args below meth c H locs 0 0 (MQ below (va_Qi Q (BU E) E.2.2.2.1) args s 0 0 E.2.2.2.1) (F0 m 4 ls [])) : ∀ (x1 : Int32) (x2 : Int32) (x3 : Int32) (I : II) (H : Heap) (locs : List Loc) (ls : Array Slot), wp_X1_cheapestFor_34 j Q k4 x1 x2 x3 I → PP E s H locs I → lv_has ls 4 [(0, .ref (E.2.1 (8 * j))), (1, .int x1), (2, .int x2), (3, .int x3)] → W p l e rmX1_cheapestFor s m args below meth c H locs 0 0 (MQ below (va_Qi Q (BU E) E.2.2.2.1) args s 0 0 E.2.2.2.1) (F0 m 34 ls []) := by
  obtain ⟨⟨hx, hb, hml, hown, hts⟩, hr, hlk, hK, hST, hN⟩ := id X
  intro x1 x2 x3 I H locs ls h hp hl
  unfold wp_X1_cheapestFor_34 at h
  refine lv_iinc (v := (x3 + (nI 1))) (lv' := [(3, .int (x3 + (nI 1))), (0, .ref (E.2.1 (8 * j))), (1, .int x1), (2, .int x2)]) hx hb dX1_cheapestFor_34 hl (k := 3) rfl rfl (by decide) rfl (fun ls hl => ?_)
  refine lv_goto (tgt := 4) hx hb dX1_cheapestFor_37 (by decide) ?_
  exact K4 _ _ _ _ _ _ _ h hp (lv_sub hl [1, 2, 3, 0] rfl)
def wp_X1_cheapestFor_4 (j : Nat) (Q : Int32 → II → Prop) (k40 : Int32 → II → Prop) : Nat → Int32 → Int32 → Int32 → II → Prop
  | 0, _, _, _, _ => False
  | n + 1, x1, x2, x3, I => (((I (8 * j) 2) ≤ x3 → (k40 x2 I)) ∧ (¬ (I (8 * j) 2) ≤ x3 → (((nI 4) ≤ x3 → (k40 x2 I)) ∧ (¬ (nI 4) ≤ x3 → (wp_X1_costTo j x3 x1 I (fun r4 I3 => (wp_X1_costTo j x2 x1 I3 (fun r6 I5 => ((r6 ≤ r4 → (wp_X1_cheapestFor_34 j Q (fun x1 x2 x3 I => wp_X1_cheapestFor_4 j Q k40 n x1 x2 x3 I) x1 x2 x3 I5)) ∧ (¬ r6 ≤ r4 → (wp_X1_cheapestFor_34 j Q (fun x1 x2 x3 I => wp_X1_cheapestFor_4 j Q k40 n x1 x2 x3 I) x1 x3 x3 I5)))))))))))
set_option maxHeartbeats 4000000 in
set_option maxRecDepth 100000 in
theorem w_X1_cheapestFor_4 {E : EE} {p : Program} {l : Launch} {e : Env} {s : State} {m : MethodId} {args : Array Value} {below : List Frame} {meth : Method} {c : Code} {Q : Int32 → II → Prop} {k40 : Int32 → II → Prop} (X : CX E p s m args meth c cX1_cheapestFor 4 (some .int) RX1) {j : Nat} (hj : j < 37) (K40 : ∀ (x2 : Int32) (I : II) (H : Heap) (locs : List Loc) (ls : Array Slot), k40 x2 I → PP E s H locs I → lv_has ls 4 [(2, .int x2)] → W p l e rmX1_cheapestFor s m args below meth c H locs 0 0 (MQ below (va_Qi Q (BU E) E.2.2.2.1) args s 0 0 E.2.2.2.1) (F0 m 40 ls [])) : ∀ (n : Nat) (x1 : Int32) (x2 : Int32) (x3 : Int32) (I : II) (H : Heap) (locs : List Loc) (ls : Array Slot), wp_X1_cheapestFor_4 j Q k40 n x1 x2 x3 I → PP E s H locs I → lv_has ls 4 [(0, .ref (E.2.1 (8 * j))), (1, .int x1), (2, .int x2), (3, .int x3)] → W p l e rmX1_cheapestFor s m args below meth c H locs 0 0 (MQ below (va_Qi Q (BU E) E.2.2.2.1) args s 0 0 E.2.2.2.1) (F0 m 4 ls []) := by
  obtain ⟨⟨hx, hb, hml, hown, hts⟩, hr, hlk, hK, hST, hN⟩ := id X
  intro n
  induction n with
  | zero =>
    intro x1 x2 x3 I H locs ls h hp hl
    exact False.elim h
  | succ n ih =>
    intro x1 x2 x3 I H locs ls h hp hl
    rw [wp_X1_cheapestFor_4.eq_2] at h
    refine lv_iload_n hx hb dX1_cheapestFor_4 rfl (lv_at hl 3 rfl) ?_
    refine lv_aload_n hx hb dX1_cheapestFor_5 rfl (lv_at hl 0 rfl) ?_
    refine f_X1_33 X hp hj dX1_cheapestFor_6 ?_
    refine lv_icmp_ge (tgt := 40) hx hb dX1_cheapestFor_9 (by decide) (fun c1 => ?_) (fun c1 => ?_)
    · have h := h.1 c1
      exact K40 _ _ _ _ _ h hp (lv_sub hl [2] rfl)
    · have h := h.2 c1
      refine lv_iload_n hx hb dX1_cheapestFor_12 rfl (lv_at hl 3 rfl) ?_
      refine lv_iconst (v := (nI 4)) hx hb dX1_cheapestFor_13 (by decide) ?_
      refine lv_icmp_ge (tgt := 40) hx hb dX1_cheapestFor_14 (by decide) (fun c2 => ?_) (fun c2 => ?_)
      · have h := h.1 c2
        exact K40 _ _ _ _ _ h hp (lv_sub hl [2] rfl)
      · have h := h.2 c2
        refine lv_aload_n hx hb dX1_cheapestFor_17 rfl (lv_at hl 0 rfl) ?_
        refine lv_iload_n hx hb dX1_cheapestFor_18 rfl (lv_at hl 3 rfl) ?_
        refine lv_iload_n hx hb dX1_cheapestFor_19 rfl (lv_at hl 1 rfl) ?_
        refine ki (kV (As := [.int x3, .int x1]) (rest := []) X hp (C_X1_costTo hj h) tw_ml_X1_81 vf_X1_costTo ⟨rfl, rfl, Nat.le_of_ble_eq_true rfl, Nat.le_of_ble_eq_true rfl⟩ (pr_rcvb X hp hj) rfl hl.1 rfl (Nat.le_of_ble_eq_true rfl) dX1_cheapestFor_20) hp (fun r4 I3 H locs h hp => ?_)
        refine lv_aload_n hx hb dX1_cheapestFor_23 rfl (lv_at hl 0 rfl) ?_
        refine lv_iload_n hx hb dX1_cheapestFor_24 rfl (lv_at hl 2 rfl) ?_
        refine lv_iload_n hx hb dX1_cheapestFor_25 rfl (lv_at hl 1 rfl) ?_
        refine ki (kV (As := [.int x2, .int x1]) (rest := [.int r4]) X hp (C_X1_costTo hj h) tw_ml_X1_81 vf_X1_costTo ⟨rfl, rfl, Nat.le_of_ble_eq_true rfl, Nat.le_of_ble_eq_true rfl⟩ (pr_rcvb X hp hj) rfl hl.1 rfl (Nat.le_of_ble_eq_true rfl) dX1_cheapestFor_26) hp (fun r6 I5 H locs h hp => ?_)
        refine lv_icmp_ge (tgt := 34) hx hb dX1_cheapestFor_29 (by decide) (fun c7 => ?_) (fun c7 => ?_)
        · have h := h.1 c7
          exact w_X1_cheapestFor_34 X hj ih _ _ _ _ _ _ _ h hp (lv_sub hl [0, 1, 2, 3] rfl)
        · have h := h.2 c7
          refine lv_iload_n hx hb dX1_cheapestFor_32 rfl (lv_at hl 3 rfl) ?_
          refine lv_istore_n (lv' := [(2, .int x3), (0, .ref (E.2.1 (8 * j))), (1, .int x1), (3, .int x3)]) hx hb dX1_cheapestFor_33 rfl hl (by decide) rfl (fun ls hl => ?_)
          exact w_X1_cheapestFor_34 X hj ih _ _ _ _ _ _ _ h hp (lv_sub hl [1, 2, 0, 3] rfl)
def wp_X1_cheapestFor (j : Nat) (x1 : Int32) (I : II) (Q : Int32 → II → Prop) : Prop := (∃ n51, wp_X1_cheapestFor_4 j Q (fun x2 I => (Q x2 I)) n51 x1 (nI 0) (nI 1) I)
set_option maxHeartbeats 4000000 in
set_option maxRecDepth 100000 in
theorem w_X1_cheapestFor_0 {E : EE} {p : Program} {l : Launch} {e : Env} {s : State} {m : MethodId} {args : Array Value} {below : List Frame} {meth : Method} {c : Code} {Q : Int32 → II → Prop} (X : CX E p s m args meth c cX1_cheapestFor 4 (some .int) RX1) {j : Nat} (hj : j < 37) : ∀ (x1 : Int32) (I : II) (H : Heap) (locs : List Loc) (ls : Array Slot), wp_X1_cheapestFor j x1 I Q → PP E s H locs I → lv_has ls 4 [(0, .ref (E.2.1 (8 * j))), (1, .int x1)] → W p l e rmX1_cheapestFor s m args below meth c H locs 0 0 (MQ below (va_Qi Q (BU E) E.2.2.2.1) args s 0 0 E.2.2.2.1) (F0 m 0 ls []) := by
  obtain ⟨⟨hx, hb, hml, hown, hts⟩, hr, hlk, hK, hST, hN⟩ := id X
  intro x1 I H locs ls h hp hl
  unfold wp_X1_cheapestFor at h
  refine lv_iconst (v := (nI 0)) hx hb dX1_cheapestFor_0 (by decide) ?_
  refine lv_istore_n (lv' := [(2, .int (nI 0)), (0, .ref (E.2.1 (8 * j))), (1, .int x1)]) hx hb dX1_cheapestFor_1 rfl hl (by decide) rfl (fun ls hl => ?_)
  refine lv_iconst (v := (nI 1)) hx hb dX1_cheapestFor_2 (by decide) ?_
  refine lv_istore_n (lv' := [(3, .int (nI 1)), (2, .int (nI 0)), (0, .ref (E.2.1 (8 * j))), (1, .int x1)]) hx hb dX1_cheapestFor_3 rfl hl (by decide) rfl (fun ls hl => ?_)
  obtain ⟨n51, h⟩ := h
  refine w_X1_cheapestFor_4 X hj ?_ n51 _ _ _ _ _ _ _ h hp (lv_sub hl [2, 3, 1, 0] rfl)
  · intro x2 I H locs ls h hp hl
    refine lv_iload_n hx hb dX1_cheapestFor_40 rfl (lv_at hl 0 rfl) ?_
    exact rt_i X hp h dX1_cheapestFor_41
set_option maxRecDepth 100000 in
theorem C_X1_cheapestFor {E : EE} {l : Launch} {j : Nat} (hj : j < 37) {x1 : Int32} {I : II} {Q : Int32 → II → Prop} (h : wp_X1_cheapestFor j x1 I Q) : Met l yX1_cheapestFor (Cond.code yX1_cheapestFor cX1_cheapestFor 4 (some .int) :: lwT) rmX1_cheapestFor (va_Pc [.ref (E.2.1 (8 * j)), .int x1] (PU E I)) (va_Qi Q (BU E) E.2.2.2.1) 0 0 E.2.2.2.1 :=
  ofWalk [.ref (E.2.1 (8 * j)), .int x1] (by decide) tw_c_X1_cheapestFor (Nat.le_of_ble_eq_true rfl) (fun p e s m below meth c ls X hp hl => w_X1_cheapestFor_0 X hj _ _ _ _ _ h hp hl)
abbrev rmX1_greatestSum : Room := { frames := 2, cells := 0, slots := 0, locals := 47 }
theorem vf_X1_greatestSum : VF yX1_greatestSum RX1 cX1_greatestSum 2 (some .int) 0 := ⟨tw_in_X1, tw_im_X1_greatestSum, tw_se_X1_greatestSum, tw_c_X1_greatestSum, by decide, by decide, by decide +kernel⟩
def wp_X1_greatestSum_3 (j : Nat) (Q : Int32 → II → Prop) (k18 : Int32 → II → Prop) (k26 : II → Prop) : Nat → Int32 → II → Prop
  | 0, _, _ => False
  | n + 1, x1, I => ((x1 < (nI 1) → (k26 I)) ∧ (¬ x1 < (nI 1) → (wp_X1_drawerOf j x1 I (fun r3 I2 => ((r3 = (-nI 1000000) → (wp_X1_greatestSum_3 j Q k18 k26 n (x1 + (-nI 1)) I2)) ∧ (¬ r3 = (-nI 1000000) → (k18 x1 I2)))))))
set_option maxHeartbeats 4000000 in
set_option maxRecDepth 100000 in
theorem w_X1_greatestSum_3 {E : EE} {p : Program} {l : Launch} {e : Env} {s : State} {m : MethodId} {args : Array Value} {below : List Frame} {meth : Method} {c : Code} {Q : Int32 → II → Prop} {k18 : Int32 → II → Prop} {k26 : II → Prop} (X : CX E p s m args meth c cX1_greatestSum 2 (some .int) RX1) {j : Nat} (hj : j < 37) (K18 : ∀ (x1 : Int32) (I : II) (H : Heap) (locs : List Loc) (ls : Array Slot), k18 x1 I → PP E s H locs I → lv_has ls 2 [(1, .int x1)] → W p l e rmX1_greatestSum s m args below meth c H locs 0 0 (MQ below (va_Qi Q (BU E) E.2.2.2.1) args s 0 0 E.2.2.2.1) (F0 m 18 ls [])) (K26 : ∀ (I : II) (H : Heap) (locs : List Loc) (ls : Array Slot), k26 I → PP E s H locs I → lv_has ls 2 [] → W p l e rmX1_greatestSum s m args below meth c H locs 0 0 (MQ below (va_Qi Q (BU E) E.2.2.2.1) args s 0 0 E.2.2.2.1) (F0 m 26 ls [])) : ∀ (n : Nat) (x1 : Int32) (I : II) (H : Heap) (locs : List Loc) (ls : Array Slot), wp_X1_greatestSum_3 j Q k18 k26 n x1 I → PP E s H locs I → lv_has ls 2 [(0, .ref (E.2.1 (8 * j))), (1, .int x1)] → W p l e rmX1_greatestSum s m args below meth c H locs 0 0 (MQ below (va_Qi Q (BU E) E.2.2.2.1) args s 0 0 E.2.2.2.1) (F0 m 3 ls []) := by
  obtain ⟨⟨hx, hb, hml, hown, hts⟩, hr, hlk, hK, hST, hN⟩ := id X
  intro n
  induction n with
  | zero =>
    intro x1 I H locs ls h hp hl
    exact False.elim h
  | succ n ih =>
    intro x1 I H locs ls h hp hl
    rw [wp_X1_greatestSum_3.eq_2] at h
    refine lv_iload_n hx hb dX1_greatestSum_3 rfl (lv_at hl 1 rfl) ?_
    refine lv_iconst (v := (nI 1)) hx hb dX1_greatestSum_4 (by decide) ?_
    refine lv_icmp_lt (tgt := 26) hx hb dX1_greatestSum_5 (by decide) (fun c1 => ?_) (fun c1 => ?_)
    · have h := h.1 c1
      exact K26 _ _ _ _ h hp (lv_sub hl [] rfl)
    · have h := h.2 c1
      refine lv_aload_n hx hb dX1_greatestSum_8 rfl (lv_at hl 0 rfl) ?_
      refine lv_iload_n hx hb dX1_greatestSum_9 rfl (lv_at hl 1 rfl) ?_
      refine ki (kV (As := [.int x1]) (rest := []) X hp (C_X1_drawerOf hj h) tw_ml_X1_94 vf_X1_drawerOf ⟨rfl, rfl, Nat.le_of_ble_eq_true rfl, Nat.le_of_ble_eq_true rfl⟩ (pr_rcvb X hp hj) rfl hl.1 rfl (Nat.le_of_ble_eq_true rfl) dX1_greatestSum_10) hp (fun r3 I2 H locs h hp => ?_)
      refine lv_ldc (v := (-nI 1000000)) hx hb hown (hts _ tw_k_X1_68) dX1_greatestSum_13 ?_
      refine lv_icmp_eq (tgt := 20) hx hb dX1_greatestSum_15 (by decide) (fun c4 => ?_) (fun c4 => ?_)
      · have h := h.1 c4
        refine lv_iinc (v := (x1 + (-nI 1))) (lv' := [(1, .int (x1 + (-nI 1))), (0, .ref (E.2.1 (8 * j)))]) hx hb dX1_greatestSum_20 hl (k := 1) rfl rfl (by decide) rfl (fun ls hl => ?_)
        refine lv_goto (tgt := 3) hx hb dX1_greatestSum_23 (by decide) ?_
        exact ih _ _ _ _ _ h hp (lv_sub hl [1, 0] rfl)
      · have h := h.2 c4
        exact K18 _ _ _ _ _ h hp (lv_sub hl [1] rfl)
def wp_X1_greatestSum (j : Nat) (I : II) (Q : Int32 → II → Prop) : Prop := (∃ n101, wp_X1_greatestSum_3 j Q (fun x1 I => (Q x1 I)) (fun I => (Q (-nI 1000000) I)) n101 (nI 99) I)
set_option maxHeartbeats 4000000 in
set_option maxRecDepth 100000 in
theorem w_X1_greatestSum_0 {E : EE} {p : Program} {l : Launch} {e : Env} {s : State} {m : MethodId} {args : Array Value} {below : List Frame} {meth : Method} {c : Code} {Q : Int32 → II → Prop} (X : CX E p s m args meth c cX1_greatestSum 2 (some .int) RX1) {j : Nat} (hj : j < 37) : ∀ (I : II) (H : Heap) (locs : List Loc) (ls : Array Slot), wp_X1_greatestSum j I Q → PP E s H locs I → lv_has ls 2 [(0, .ref (E.2.1 (8 * j)))] → W p l e rmX1_greatestSum s m args below meth c H locs 0 0 (MQ below (va_Qi Q (BU E) E.2.2.2.1) args s 0 0 E.2.2.2.1) (F0 m 0 ls []) := by
  obtain ⟨⟨hx, hb, hml, hown, hts⟩, hr, hlk, hK, hST, hN⟩ := id X
  intro I H locs ls h hp hl
  unfold wp_X1_greatestSum at h
  refine lv_bipush (v := (nI 99)) hx hb dX1_greatestSum_0 (by decide) ?_
  refine lv_istore_n (lv' := [(1, .int (nI 99)), (0, .ref (E.2.1 (8 * j)))]) hx hb dX1_greatestSum_2 rfl hl (by decide) rfl (fun ls hl => ?_)
  obtain ⟨n101, h⟩ := h
  refine w_X1_greatestSum_3 X hj ?_ ?_ n101 _ _ _ _ _ h hp (lv_sub hl [1, 0] rfl)
  · intro x1 I H locs ls h hp hl
    refine lv_iload_n hx hb dX1_greatestSum_18 rfl (lv_at hl 0 rfl) ?_
    exact rt_i X hp h dX1_greatestSum_19
  · intro I H locs ls h hp hl
    refine lv_ldc (v := (-nI 1000000)) hx hb hown (hts _ tw_k_X1_68) dX1_greatestSum_26 ?_
    exact rt_i X hp h dX1_greatestSum_28
set_option maxRecDepth 100000 in
theorem C_X1_greatestSum {E : EE} {l : Launch} {j : Nat} (hj : j < 37) {I : II} {Q : Int32 → II → Prop} (h : wp_X1_greatestSum j I Q) : Met l yX1_greatestSum (Cond.code yX1_greatestSum cX1_greatestSum 2 (some .int) :: lwT) rmX1_greatestSum (va_Pc [.ref (E.2.1 (8 * j))] (PU E I)) (va_Qi Q (BU E) E.2.2.2.1) 0 0 E.2.2.2.1 :=
  ofWalk [.ref (E.2.1 (8 * j))] (by decide) tw_c_X1_greatestSum (Nat.le_of_ble_eq_true rfl) (fun p e s m below meth c ls X hp hl => w_X1_greatestSum_0 X hj _ _ _ _ h hp hl)
abbrev rmX1_twinPairs : Room := { frames := 0, cells := 0, slots := 0, locals := 0 }
theorem vf_X1_twinPairs : VF yX1_twinPairs RX1 cX1_twinPairs 4 (some .int) 0 := ⟨tw_in_X1, tw_im_X1_twinPairs, tw_se_X1_twinPairs, tw_c_X1_twinPairs, by decide, by decide, by decide +kernel⟩
def wp_X1_twinPairs_52 (j : Nat) (Q : Int32 → II → Prop) (k21 : Int32 → Int32 → Int32 → II → Prop) (x1 : Int32) (x2 : Int32) (x3 : Int32) (I : II) : Prop := (k21 x1 x2 (x3 + (nI 1)) I)
set_option maxHeartbeats 4000000 in
set_option maxRecDepth 100000 in
theorem w_X1_twinPairs_52 {E : EE} {p : Program} {l : Launch} {e : Env} {s : State} {m : MethodId} {args : Array Value} {below : List Frame} {meth : Method} {c : Code} {Q : Int32 → II → Prop} {k21 : Int32 → Int32 → Int32 → II → Prop} (X : CX E p s m args meth c cX1_twinPairs 4 (some .int) RX1) {j : Nat} (hj : j < 37) (K21 : ∀ (x1 : Int32) (x2 : Int32) (x3 : Int32) (I : II) (H : Heap) (locs : List Loc) (ls : Array Slot), k21 x1 x2 x3 I → PP E s H locs I → lv_has ls 4 [(0, .ref (E.2.1 (8 * j))), (1, .int x1), (2, .int x2), (3, .int x3)] → W p l e rmX1_twinPairs s m args below meth c H locs 0 0 (MQ below (va_Qi Q (BU E) E.2.2.2.1) args s 0 0 E.2.2.2.1) (F0 m 21 ls [])) : ∀ (x1 : Int32) (x2 : Int32) (x3 : Int32) (I : II) (H : Heap) (locs : List Loc) (ls : Array Slot), wp_X1_twinPairs_52 j Q k21 x1 x2 x3 I → PP E s H locs I → lv_has ls 4 [(0, .ref (E.2.1 (8 * j))), (1, .int x1), (2, .int x2), (3, .int x3)] → W p l e rmX1_twinPairs s m args below meth c H locs 0 0 (MQ below (va_Qi Q (BU E) E.2.2.2.1) args s 0 0 E.2.2.2.1) (F0 m 52 ls []) := by
  obtain ⟨⟨hx, hb, hml, hown, hts⟩, hr, hlk, hK, hST, hN⟩ := id X
  intro x1 x2 x3 I H locs ls h hp hl
  unfold wp_X1_twinPairs_52 at h
  refine lv_iinc (v := (x3 + (nI 1))) (lv' := [(3, .int (x3 + (nI 1))), (0, .ref (E.2.1 (8 * j))), (1, .int x1), (2, .int x2)]) hx hb dX1_twinPairs_52 hl (k := 3) rfl rfl (by decide) rfl (fun ls hl => ?_)
  refine lv_goto (tgt := 21) hx hb dX1_twinPairs_55 (by decide) ?_
  exact K21 _ _ _ _ _ _ _ h hp (lv_sub hl [1, 2, 3, 0] rfl)
def wp_X1_twinPairs_21 (j : Nat) (Q : Int32 → II → Prop) (k58 : Int32 → Int32 → II → Prop) : Nat → Int32 → Int32 → Int32 → II → Prop
  | 0, _, _, _, _ => False
  | n + 1, x1, x2, x3, I => (((I (8 * j) 2) ≤ x3 → (k58 x1 x2 I)) ∧ (¬ (I (8 * j) 2) ≤ x3 → (((nI 4) ≤ x3 → (k58 x1 x2 I)) ∧ (¬ (nI 4) ≤ x3 → (vp_in x2 4 ∧ (vp_in x3 4 ∧ ((¬ (I (8 * j + 4) x2.toNatClampNeg) = (I (8 * j + 4) x3.toNatClampNeg) → (wp_X1_twinPairs_52 j Q (fun x1 x2 x3 I => wp_X1_twinPairs_21 j Q k58 n x1 x2 x3 I) x1 x2 x3 I)) ∧ ((I (8 * j + 4) x2.toNatClampNeg) = (I (8 * j + 4) x3.toNatClampNeg) → (wp_X1_twinPairs_52 j Q (fun x1 x2 x3 I => wp_X1_twinPairs_21 j Q k58 n x1 x2 x3 I) (x1 + (nI 1)) x2 x3 I)))))))))
set_option maxHeartbeats 4000000 in
set_option maxRecDepth 100000 in
theorem w_X1_twinPairs_21 {E : EE} {p : Program} {l : Launch} {e : Env} {s : State} {m : MethodId} {args : Array Value} {below : List Frame} {meth : Method} {c : Code} {Q : Int32 → II → Prop} {k58 : Int32 → Int32 → II → Prop} (X : CX E p s m args meth c cX1_twinPairs 4 (some .int) RX1) {j : Nat} (hj : j < 37) (K58 : ∀ (x1 : Int32) (x2 : Int32) (I : II) (H : Heap) (locs : List Loc) (ls : Array Slot), k58 x1 x2 I → PP E s H locs I → lv_has ls 4 [(0, .ref (E.2.1 (8 * j))), (1, .int x1), (2, .int x2)] → W p l e rmX1_twinPairs s m args below meth c H locs 0 0 (MQ below (va_Qi Q (BU E) E.2.2.2.1) args s 0 0 E.2.2.2.1) (F0 m 58 ls [])) : ∀ (n : Nat) (x1 : Int32) (x2 : Int32) (x3 : Int32) (I : II) (H : Heap) (locs : List Loc) (ls : Array Slot), wp_X1_twinPairs_21 j Q k58 n x1 x2 x3 I → PP E s H locs I → lv_has ls 4 [(0, .ref (E.2.1 (8 * j))), (1, .int x1), (2, .int x2), (3, .int x3)] → W p l e rmX1_twinPairs s m args below meth c H locs 0 0 (MQ below (va_Qi Q (BU E) E.2.2.2.1) args s 0 0 E.2.2.2.1) (F0 m 21 ls []) := by
  obtain ⟨⟨hx, hb, hml, hown, hts⟩, hr, hlk, hK, hST, hN⟩ := id X
  intro n
  induction n with
  | zero =>
    intro x1 x2 x3 I H locs ls h hp hl
    exact False.elim h
  | succ n ih =>
    intro x1 x2 x3 I H locs ls h hp hl
    rw [wp_X1_twinPairs_21.eq_2] at h
    refine lv_iload_n hx hb dX1_twinPairs_21 rfl (lv_at hl 3 rfl) ?_
    refine lv_aload_n hx hb dX1_twinPairs_22 rfl (lv_at hl 0 rfl) ?_
    refine f_X1_33 X hp hj dX1_twinPairs_23 ?_
    refine lv_icmp_ge (tgt := 58) hx hb dX1_twinPairs_26 (by decide) (fun c1 => ?_) (fun c1 => ?_)
    · have h := h.1 c1
      exact K58 _ _ _ _ _ _ h hp (lv_sub hl [0, 1, 2] rfl)
    · have h := h.2 c1
      refine lv_iload_n hx hb dX1_twinPairs_29 rfl (lv_at hl 3 rfl) ?_
      refine lv_iconst (v := (nI 4)) hx hb dX1_twinPairs_30 (by decide) ?_
      refine lv_icmp_ge (tgt := 58) hx hb dX1_twinPairs_31 (by decide) (fun c2 => ?_) (fun c2 => ?_)
      · have h := h.1 c2
        exact K58 _ _ _ _ _ _ h hp (lv_sub hl [0, 1, 2] rfl)
      · have h := h.2 c2
        refine lv_aload_n hx hb dX1_twinPairs_34 rfl (lv_at hl 0 rfl) ?_
        refine f_X1_21 X hp hj dX1_twinPairs_35 ?_
        refine lv_iload_n hx hb dX1_twinPairs_38 rfl (lv_at hl 2 rfl) ?_
        have hv3 := h.1
        have h := h.2
        refine al_i X hp (ar_4 hj) hv3 dX1_twinPairs_39 ?_
        refine lv_aload_n hx hb dX1_twinPairs_40 rfl (lv_at hl 0 rfl) ?_
        refine f_X1_21 X hp hj dX1_twinPairs_41 ?_
        refine lv_iload_n hx hb dX1_twinPairs_44 rfl (lv_at hl 3 rfl) ?_
        have hv4 := h.1
        have h := h.2
        refine al_i X hp (ar_4 hj) hv4 dX1_twinPairs_45 ?_
        refine lv_icmp_ne (tgt := 52) hx hb dX1_twinPairs_46 (by decide) (fun c5 => ?_) (fun c5 => ?_)
        · have h := h.1 c5
          exact w_X1_twinPairs_52 X hj ih _ _ _ _ _ _ _ h hp (lv_sub hl [0, 1, 2, 3] rfl)
        · have h := h.2 c5
          refine lv_iinc (v := (x1 + (nI 1))) (lv' := [(1, .int (x1 + (nI 1))), (0, .ref (E.2.1 (8 * j))), (2, .int x2), (3, .int x3)]) hx hb dX1_twinPairs_49 hl (k := 1) rfl rfl (by decide) rfl (fun ls hl => ?_)
          exact w_X1_twinPairs_52 X hj ih _ _ _ _ _ _ _ h hp (lv_sub hl [1, 0, 2, 3] rfl)
def wp_X1_twinPairs_58 (j : Nat) (Q : Int32 → II → Prop) (k4 : Int32 → Int32 → II → Prop) (x1 : Int32) (x2 : Int32) (I : II) : Prop := (k4 x1 (x2 + (nI 1)) I)
set_option maxHeartbeats 4000000 in
set_option maxRecDepth 100000 in
theorem w_X1_twinPairs_58 {E : EE} {p : Program} {l : Launch} {e : Env} {s : State} {m : MethodId} {args : Array Value} {below : List Frame} {meth : Method} {c : Code} {Q : Int32 → II → Prop} {k4 : Int32 → Int32 → II → Prop} (X : CX E p s m args meth c cX1_twinPairs 4 (some .int) RX1) {j : Nat} (hj : j < 37) (K4 : ∀ (x1 : Int32) (x2 : Int32) (I : II) (H : Heap) (locs : List Loc) (ls : Array Slot), k4 x1 x2 I → PP E s H locs I → lv_has ls 4 [(0, .ref (E.2.1 (8 * j))), (1, .int x1), (2, .int x2)] → W p l e rmX1_twinPairs s m args below meth c H locs 0 0 (MQ below (va_Qi Q (BU E) E.2.2.2.1) args s 0 0 E.2.2.2.1) (F0 m 4 ls [])) : ∀ (x1 : Int32) (x2 : Int32) (I : II) (H : Heap) (locs : List Loc) (ls : Array Slot), wp_X1_twinPairs_58 j Q k4 x1 x2 I → PP E s H locs I → lv_has ls 4 [(0, .ref (E.2.1 (8 * j))), (1, .int x1), (2, .int x2)] → W p l e rmX1_twinPairs s m args below meth c H locs 0 0 (MQ below (va_Qi Q (BU E) E.2.2.2.1) args s 0 0 E.2.2.2.1) (F0 m 58 ls []) := by
  obtain ⟨⟨hx, hb, hml, hown, hts⟩, hr, hlk, hK, hST, hN⟩ := id X
  intro x1 x2 I H locs ls h hp hl
  unfold wp_X1_twinPairs_58 at h
  refine lv_iinc (v := (x2 + (nI 1))) (lv' := [(2, .int (x2 + (nI 1))), (0, .ref (E.2.1 (8 * j))), (1, .int x1)]) hx hb dX1_twinPairs_58 hl (k := 2) rfl rfl (by decide) rfl (fun ls hl => ?_)
  refine lv_goto (tgt := 4) hx hb dX1_twinPairs_61 (by decide) ?_
  exact K4 _ _ _ _ _ _ h hp (lv_sub hl [1, 2, 0] rfl)
def wp_X1_twinPairs_4 (j : Nat) (Q : Int32 → II → Prop) (k64 : Int32 → II → Prop) : Nat → Int32 → Int32 → II → Prop
  | 0, _, _, _ => False
  | n + 1, x1, x2, I => (((I (8 * j) 2) ≤ x2 → (k64 x1 I)) ∧ (¬ (I (8 * j) 2) ≤ x2 → (((nI 4) ≤ x2 → (k64 x1 I)) ∧ (¬ (nI 4) ≤ x2 → (∃ n53, wp_X1_twinPairs_21 j Q (fun x1 x2 I => (wp_X1_twinPairs_58 j Q (fun x1 x2 I => wp_X1_twinPairs_4 j Q k64 n x1 x2 I) x1 x2 I)) n53 x1 x2 (x2 + (nI 1)) I)))))
set_option maxHeartbeats 4000000 in
set_option maxRecDepth 100000 in
theorem w_X1_twinPairs_4 {E : EE} {p : Program} {l : Launch} {e : Env} {s : State} {m : MethodId} {args : Array Value} {below : List Frame} {meth : Method} {c : Code} {Q : Int32 → II → Prop} {k64 : Int32 → II → Prop} (X : CX E p s m args meth c cX1_twinPairs 4 (some .int) RX1) {j : Nat} (hj : j < 37) (K64 : ∀ (x1 : Int32) (I : II) (H : Heap) (locs : List Loc) (ls : Array Slot), k64 x1 I → PP E s H locs I → lv_has ls 4 [(1, .int x1)] → W p l e rmX1_twinPairs s m args below meth c H locs 0 0 (MQ below (va_Qi Q (BU E) E.2.2.2.1) args s 0 0 E.2.2.2.1) (F0 m 64 ls [])) : ∀ (n : Nat) (x1 : Int32) (x2 : Int32) (I : II) (H : Heap) (locs : List Loc) (ls : Array Slot), wp_X1_twinPairs_4 j Q k64 n x1 x2 I → PP E s H locs I → lv_has ls 4 [(0, .ref (E.2.1 (8 * j))), (1, .int x1), (2, .int x2)] → W p l e rmX1_twinPairs s m args below meth c H locs 0 0 (MQ below (va_Qi Q (BU E) E.2.2.2.1) args s 0 0 E.2.2.2.1) (F0 m 4 ls []) := by
  obtain ⟨⟨hx, hb, hml, hown, hts⟩, hr, hlk, hK, hST, hN⟩ := id X
  intro n
  induction n with
  | zero =>
    intro x1 x2 I H locs ls h hp hl
    exact False.elim h
  | succ n ih =>
    intro x1 x2 I H locs ls h hp hl
    rw [wp_X1_twinPairs_4.eq_2] at h
    refine lv_iload_n hx hb dX1_twinPairs_4 rfl (lv_at hl 2 rfl) ?_
    refine lv_aload_n hx hb dX1_twinPairs_5 rfl (lv_at hl 0 rfl) ?_
    refine f_X1_33 X hp hj dX1_twinPairs_6 ?_
    refine lv_icmp_ge (tgt := 64) hx hb dX1_twinPairs_9 (by decide) (fun c1 => ?_) (fun c1 => ?_)
    · have h := h.1 c1
      exact K64 _ _ _ _ _ h hp (lv_sub hl [1] rfl)
    · have h := h.2 c1
      refine lv_iload_n hx hb dX1_twinPairs_12 rfl (lv_at hl 2 rfl) ?_
      refine lv_iconst (v := (nI 4)) hx hb dX1_twinPairs_13 (by decide) ?_
      refine lv_icmp_ge (tgt := 64) hx hb dX1_twinPairs_14 (by decide) (fun c2 => ?_) (fun c2 => ?_)
      · have h := h.1 c2
        exact K64 _ _ _ _ _ h hp (lv_sub hl [1] rfl)
      · have h := h.2 c2
        refine lv_iload_n hx hb dX1_twinPairs_17 rfl (lv_at hl 2 rfl) ?_
        refine lv_iconst (v := (nI 1)) hx hb dX1_twinPairs_18 (by decide) ?_
        refine lv_iadd hx hb dX1_twinPairs_19 ?_
        refine lv_istore_n (lv' := [(3, .int (x2 + (nI 1))), (0, .ref (E.2.1 (8 * j))), (1, .int x1), (2, .int x2)]) hx hb dX1_twinPairs_20 rfl hl (by decide) rfl (fun ls hl => ?_)
        obtain ⟨n53, h⟩ := h
        refine w_X1_twinPairs_21 X hj ?_ n53 _ _ _ _ _ _ _ h hp (lv_sub hl [1, 2, 3, 0] rfl)
        · intro x1 x2 I H locs ls h hp hl
          exact w_X1_twinPairs_58 X hj ih _ _ _ _ _ _ h hp (lv_sub hl [0, 1, 2] rfl)
def wp_X1_twinPairs (j : Nat) (I : II) (Q : Int32 → II → Prop) : Prop := (∃ n51, wp_X1_twinPairs_4 j Q (fun x1 I => (Q x1 I)) n51 (nI 0) (nI 0) I)
set_option maxHeartbeats 4000000 in
set_option maxRecDepth 100000 in
theorem w_X1_twinPairs_0 {E : EE} {p : Program} {l : Launch} {e : Env} {s : State} {m : MethodId} {args : Array Value} {below : List Frame} {meth : Method} {c : Code} {Q : Int32 → II → Prop} (X : CX E p s m args meth c cX1_twinPairs 4 (some .int) RX1) {j : Nat} (hj : j < 37) : ∀ (I : II) (H : Heap) (locs : List Loc) (ls : Array Slot), wp_X1_twinPairs j I Q → PP E s H locs I → lv_has ls 4 [(0, .ref (E.2.1 (8 * j)))] → W p l e rmX1_twinPairs s m args below meth c H locs 0 0 (MQ below (va_Qi Q (BU E) E.2.2.2.1) args s 0 0 E.2.2.2.1) (F0 m 0 ls []) := by
  obtain ⟨⟨hx, hb, hml, hown, hts⟩, hr, hlk, hK, hST, hN⟩ := id X
  intro I H locs ls h hp hl
  unfold wp_X1_twinPairs at h
  refine lv_iconst (v := (nI 0)) hx hb dX1_twinPairs_0 (by decide) ?_
  refine lv_istore_n (lv' := [(1, .int (nI 0)), (0, .ref (E.2.1 (8 * j)))]) hx hb dX1_twinPairs_1 rfl hl (by decide) rfl (fun ls hl => ?_)
  refine lv_iconst (v := (nI 0)) hx hb dX1_twinPairs_2 (by decide) ?_
  refine lv_istore_n (lv' := [(2, .int (nI 0)), (1, .int (nI 0)), (0, .ref (E.2.1 (8 * j)))]) hx hb dX1_twinPairs_3 rfl hl (by decide) rfl (fun ls hl => ?_)
  obtain ⟨n51, h⟩ := h
  refine w_X1_twinPairs_4 X hj ?_ n51 _ _ _ _ _ _ h hp (lv_sub hl [2, 1, 0] rfl)
  · intro x1 I H locs ls h hp hl
    refine lv_iload_n hx hb dX1_twinPairs_64 rfl (lv_at hl 0 rfl) ?_
    exact rt_i X hp h dX1_twinPairs_65
set_option maxRecDepth 100000 in
theorem C_X1_twinPairs {E : EE} {l : Launch} {j : Nat} (hj : j < 37) {I : II} {Q : Int32 → II → Prop} (h : wp_X1_twinPairs j I Q) : Met l yX1_twinPairs (Cond.code yX1_twinPairs cX1_twinPairs 4 (some .int) :: lwT) rmX1_twinPairs (va_Pc [.ref (E.2.1 (8 * j))] (PU E I)) (va_Qi Q (BU E) E.2.2.2.1) 0 0 E.2.2.2.1 :=
  ofWalk [.ref (E.2.1 (8 * j))] (by decide) tw_c_X1_twinPairs (Nat.le_of_ble_eq_true rfl) (fun p e s m below meth c ls X hp hl => w_X1_twinPairs_0 X hj _ _ _ _ h hp hl)
abbrev rmX1_firstTwins : Room := { frames := 0, cells := 0, slots := 0, locals := 0 }
theorem vf_X1_firstTwins : VF yX1_firstTwins RX1 cX1_firstTwins 3 (some .int) 0 := ⟨tw_in_X1, tw_im_X1_firstTwins, tw_se_X1_firstTwins, tw_c_X1_firstTwins, by decide, by decide, by decide +kernel⟩
def wp_X1_firstTwins_19 (j : Nat) (Q : Int32 → II → Prop) (k47 : Int32 → Int32 → II → Prop) (k60 : Int32 → II → Prop) : Nat → Int32 → Int32 → II → Prop
  | 0, _, _, _ => False
  | n + 1, x1, x2, I => (((I (8 * j) 2) ≤ x2 → (k60 x1 I)) ∧ (¬ (I (8 * j) 2) ≤ x2 → (((nI 4) ≤ x2 → (k60 x1 I)) ∧ (¬ (nI 4) ≤ x2 → (vp_in x1 4 ∧ (vp_in x2 4 ∧ ((¬ (I (8 * j + 4) x1.toNatClampNeg) = (I (8 * j + 4) x2.toNatClampNeg) → (wp_X1_firstTwins_19 j Q k47 k60 n x1 (x2 + (nI 1)) I)) ∧ ((I (8 * j + 4) x1.toNatClampNeg) = (I (8 * j + 4) x2.toNatClampNeg) → (k47 x1 x2 I)))))))))
set_option maxHeartbeats 4000000 in
set_option maxRecDepth 100000 in
theorem w_X1_firstTwins_19 {E : EE} {p : Program} {l : Launch} {e : Env} {s : State} {m : MethodId} {args : Array Value} {below : List Frame} {meth : Method} {c : Code} {Q : Int32 → II → Prop} {k47 : Int32 → Int32 → II → Prop} {k60 : Int32 → II → Prop} (X : CX E p s m args meth c cX1_firstTwins 3 (some .int) RX1) {j : Nat} (hj : j < 37) (K47 : ∀ (x1 : Int32) (x2 : Int32) (I : II) (H : Heap) (locs : List Loc) (ls : Array Slot), k47 x1 x2 I → PP E s H locs I → lv_has ls 3 [(1, .int x1), (2, .int x2)] → W p l e rmX1_firstTwins s m args below meth c H locs 0 0 (MQ below (va_Qi Q (BU E) E.2.2.2.1) args s 0 0 E.2.2.2.1) (F0 m 47 ls [])) (K60 : ∀ (x1 : Int32) (I : II) (H : Heap) (locs : List Loc) (ls : Array Slot), k60 x1 I → PP E s H locs I → lv_has ls 3 [(0, .ref (E.2.1 (8 * j))), (1, .int x1)] → W p l e rmX1_firstTwins s m args below meth c H locs 0 0 (MQ below (va_Qi Q (BU E) E.2.2.2.1) args s 0 0 E.2.2.2.1) (F0 m 60 ls [])) : ∀ (n : Nat) (x1 : Int32) (x2 : Int32) (I : II) (H : Heap) (locs : List Loc) (ls : Array Slot), wp_X1_firstTwins_19 j Q k47 k60 n x1 x2 I → PP E s H locs I → lv_has ls 3 [(0, .ref (E.2.1 (8 * j))), (1, .int x1), (2, .int x2)] → W p l e rmX1_firstTwins s m args below meth c H locs 0 0 (MQ below (va_Qi Q (BU E) E.2.2.2.1) args s 0 0 E.2.2.2.1) (F0 m 19 ls []) := by
  obtain ⟨⟨hx, hb, hml, hown, hts⟩, hr, hlk, hK, hST, hN⟩ := id X
  intro n
  induction n with
  | zero =>
    intro x1 x2 I H locs ls h hp hl
    exact False.elim h
  | succ n ih =>
    intro x1 x2 I H locs ls h hp hl
    rw [wp_X1_firstTwins_19.eq_2] at h
    refine lv_iload_n hx hb dX1_firstTwins_19 rfl (lv_at hl 2 rfl) ?_
    refine lv_aload_n hx hb dX1_firstTwins_20 rfl (lv_at hl 0 rfl) ?_
    refine f_X1_33 X hp hj dX1_firstTwins_21 ?_
    refine lv_icmp_ge (tgt := 60) hx hb dX1_firstTwins_24 (by decide) (fun c1 => ?_) (fun c1 => ?_)
    · have h := h.1 c1
      exact K60 _ _ _ _ _ h hp (lv_sub hl [0, 1] rfl)
    · have h := h.2 c1
      refine lv_iload_n hx hb dX1_firstTwins_27 rfl (lv_at hl 2 rfl) ?_
      refine lv_iconst (v := (nI 4)) hx hb dX1_firstTwins_28 (by decide) ?_
      refine lv_icmp_ge (tgt := 60) hx hb dX1_firstTwins_29 (by decide) (fun c2 => ?_) (fun c2 => ?_)
      · have h := h.1 c2
        exact K60 _ _ _ _ _ h hp (lv_sub hl [0, 1] rfl)
      · have h := h.2 c2
        refine lv_aload_n hx hb dX1_firstTwins_32 rfl (lv_at hl 0 rfl) ?_
        refine f_X1_21 X hp hj dX1_firstTwins_33 ?_
        refine lv_iload_n hx hb dX1_firstTwins_36 rfl (lv_at hl 1 rfl) ?_
        have hv3 := h.1
        have h := h.2
        refine al_i X hp (ar_4 hj) hv3 dX1_firstTwins_37 ?_
        refine lv_aload_n hx hb dX1_firstTwins_38 rfl (lv_at hl 0 rfl) ?_
        refine f_X1_21 X hp hj dX1_firstTwins_39 ?_
        refine lv_iload_n hx hb dX1_firstTwins_42 rfl (lv_at hl 2 rfl) ?_
        have hv4 := h.1
        have h := h.2
        refine al_i X hp (ar_4 hj) hv4 dX1_firstTwins_43 ?_
        refine lv_icmp_ne (tgt := 54) hx hb dX1_firstTwins_44 (by decide) (fun c5 => ?_) (fun c5 => ?_)
        · have h := h.1 c5
          refine lv_iinc (v := (x2 + (nI 1))) (lv' := [(2, .int (x2 + (nI 1))), (0, .ref (E.2.1 (8 * j))), (1, .int x1)]) hx hb dX1_firstTwins_54 hl (k := 2) rfl rfl (by decide) rfl (fun ls hl => ?_)
          refine lv_goto (tgt := 19) hx hb dX1_firstTwins_57 (by decide) ?_
          exact ih _ _ _ _ _ _ h hp (lv_sub hl [1, 2, 0] rfl)
        · have h := h.2 c5
          exact K47 _ _ _ _ _ _ h hp (lv_sub hl [1, 2] rfl)
def wp_X1_firstTwins_60 (j : Nat) (Q : Int32 → II → Prop) (k2 : Int32 → II → Prop) (x1 : Int32) (I : II) : Prop := (k2 (x1 + (nI 1)) I)
set_option maxHeartbeats 4000000 in
set_option maxRecDepth 100000 in
theorem w_X1_firstTwins_60 {E : EE} {p : Program} {l : Launch} {e : Env} {s : State} {m : MethodId} {args : Array Value} {below : List Frame} {meth : Method} {c : Code} {Q : Int32 → II → Prop} {k2 : Int32 → II → Prop} (X : CX E p s m args meth c cX1_firstTwins 3 (some .int) RX1) {j : Nat} (hj : j < 37) (K2 : ∀ (x1 : Int32) (I : II) (H : Heap) (locs : List Loc) (ls : Array Slot), k2 x1 I → PP E s H locs I → lv_has ls 3 [(0, .ref (E.2.1 (8 * j))), (1, .int x1)] → W p l e rmX1_firstTwins s m args below meth c H locs 0 0 (MQ below (va_Qi Q (BU E) E.2.2.2.1) args s 0 0 E.2.2.2.1) (F0 m 2 ls [])) : ∀ (x1 : Int32) (I : II) (H : Heap) (locs : List Loc) (ls : Array Slot), wp_X1_firstTwins_60 j Q k2 x1 I → PP E s H locs I → lv_has ls 3 [(0, .ref (E.2.1 (8 * j))), (1, .int x1)] → W p l e rmX1_firstTwins s m args below meth c H locs 0 0 (MQ below (va_Qi Q (BU E) E.2.2.2.1) args s 0 0 E.2.2.2.1) (F0 m 60 ls []) := by
  obtain ⟨⟨hx, hb, hml, hown, hts⟩, hr, hlk, hK, hST, hN⟩ := id X
  intro x1 I H locs ls h hp hl
  unfold wp_X1_firstTwins_60 at h
  refine lv_iinc (v := (x1 + (nI 1))) (lv' := [(1, .int (x1 + (nI 1))), (0, .ref (E.2.1 (8 * j)))]) hx hb dX1_firstTwins_60 hl (k := 1) rfl rfl (by decide) rfl (fun ls hl => ?_)
  refine lv_goto (tgt := 2) hx hb dX1_firstTwins_63 (by decide) ?_
  exact K2 _ _ _ _ _ h hp (lv_sub hl [1, 0] rfl)
def wp_X1_firstTwins_2 (j : Nat) (Q : Int32 → II → Prop) (k47 : Int32 → Int32 → II → Prop) (k66 : II → Prop) : Nat → Int32 → II → Prop
  | 0, _, _ => False
  | n + 1, x1, I => (((I (8 * j) 2) ≤ x1 → (k66 I)) ∧ (¬ (I (8 * j) 2) ≤ x1 → (((nI 4) ≤ x1 → (k66 I)) ∧ (¬ (nI 4) ≤ x1 → (∃ n53, wp_X1_firstTwins_19 j Q k47 (fun x1 I => (wp_X1_firstTwins_60 j Q (fun x1 I => wp_X1_firstTwins_2 j Q k47 k66 n x1 I) x1 I)) n53 x1 (x1 + (nI 1)) I)))))
set_option maxHeartbeats 4000000 in
set_option maxRecDepth 100000 in
theorem w_X1_firstTwins_2 {E : EE} {p : Program} {l : Launch} {e : Env} {s : State} {m : MethodId} {args : Array Value} {below : List Frame} {meth : Method} {c : Code} {Q : Int32 → II → Prop} {k47 : Int32 → Int32 → II → Prop} {k66 : II → Prop} (X : CX E p s m args meth c cX1_firstTwins 3 (some .int) RX1) {j : Nat} (hj : j < 37) (K47 : ∀ (x1 : Int32) (x2 : Int32) (I : II) (H : Heap) (locs : List Loc) (ls : Array Slot), k47 x1 x2 I → PP E s H locs I → lv_has ls 3 [(1, .int x1), (2, .int x2)] → W p l e rmX1_firstTwins s m args below meth c H locs 0 0 (MQ below (va_Qi Q (BU E) E.2.2.2.1) args s 0 0 E.2.2.2.1) (F0 m 47 ls [])) (K66 : ∀ (I : II) (H : Heap) (locs : List Loc) (ls : Array Slot), k66 I → PP E s H locs I → lv_has ls 3 [] → W p l e rmX1_firstTwins s m args below meth c H locs 0 0 (MQ below (va_Qi Q (BU E) E.2.2.2.1) args s 0 0 E.2.2.2.1) (F0 m 66 ls [])) : ∀ (n : Nat) (x1 : Int32) (I : II) (H : Heap) (locs : List Loc) (ls : Array Slot), wp_X1_firstTwins_2 j Q k47 k66 n x1 I → PP E s H locs I → lv_has ls 3 [(0, .ref (E.2.1 (8 * j))), (1, .int x1)] → W p l e rmX1_firstTwins s m args below meth c H locs 0 0 (MQ below (va_Qi Q (BU E) E.2.2.2.1) args s 0 0 E.2.2.2.1) (F0 m 2 ls []) := by
  obtain ⟨⟨hx, hb, hml, hown, hts⟩, hr, hlk, hK, hST, hN⟩ := id X
  intro n
  induction n with
  | zero =>
    intro x1 I H locs ls h hp hl
    exact False.elim h
  | succ n ih =>
    intro x1 I H locs ls h hp hl
    rw [wp_X1_firstTwins_2.eq_2] at h
    refine lv_iload_n hx hb dX1_firstTwins_2 rfl (lv_at hl 1 rfl) ?_
    refine lv_aload_n hx hb dX1_firstTwins_3 rfl (lv_at hl 0 rfl) ?_
    refine f_X1_33 X hp hj dX1_firstTwins_4 ?_
    refine lv_icmp_ge (tgt := 66) hx hb dX1_firstTwins_7 (by decide) (fun c1 => ?_) (fun c1 => ?_)
    · have h := h.1 c1
      exact K66 _ _ _ _ h hp (lv_sub hl [] rfl)
    · have h := h.2 c1
      refine lv_iload_n hx hb dX1_firstTwins_10 rfl (lv_at hl 1 rfl) ?_
      refine lv_iconst (v := (nI 4)) hx hb dX1_firstTwins_11 (by decide) ?_
      refine lv_icmp_ge (tgt := 66) hx hb dX1_firstTwins_12 (by decide) (fun c2 => ?_) (fun c2 => ?_)
      · have h := h.1 c2
        exact K66 _ _ _ _ h hp (lv_sub hl [] rfl)
      · have h := h.2 c2
        refine lv_iload_n hx hb dX1_firstTwins_15 rfl (lv_at hl 1 rfl) ?_
        refine lv_iconst (v := (nI 1)) hx hb dX1_firstTwins_16 (by decide) ?_
        refine lv_iadd hx hb dX1_firstTwins_17 ?_
        refine lv_istore_n (lv' := [(2, .int (x1 + (nI 1))), (0, .ref (E.2.1 (8 * j))), (1, .int x1)]) hx hb dX1_firstTwins_18 rfl hl (by decide) rfl (fun ls hl => ?_)
        obtain ⟨n53, h⟩ := h
        refine w_X1_firstTwins_19 X hj K47 ?_ n53 _ _ _ _ _ _ h hp (lv_sub hl [1, 2, 0] rfl)
        · intro x1 I H locs ls h hp hl
          exact w_X1_firstTwins_60 X hj ih _ _ _ _ _ h hp (lv_sub hl [0, 1] rfl)
def wp_X1_firstTwins (j : Nat) (I : II) (Q : Int32 → II → Prop) : Prop := (∃ n101, wp_X1_firstTwins_2 j Q (fun x1 x2 I => (Q (((nI 10) * x1) + x2) I)) (fun I => (Q (-nI 1000000) I)) n101 (nI 0) I)
set_option maxHeartbeats 4000000 in
set_option maxRecDepth 100000 in
theorem w_X1_firstTwins_0 {E : EE} {p : Program} {l : Launch} {e : Env} {s : State} {m : MethodId} {args : Array Value} {below : List Frame} {meth : Method} {c : Code} {Q : Int32 → II → Prop} (X : CX E p s m args meth c cX1_firstTwins 3 (some .int) RX1) {j : Nat} (hj : j < 37) : ∀ (I : II) (H : Heap) (locs : List Loc) (ls : Array Slot), wp_X1_firstTwins j I Q → PP E s H locs I → lv_has ls 3 [(0, .ref (E.2.1 (8 * j)))] → W p l e rmX1_firstTwins s m args below meth c H locs 0 0 (MQ below (va_Qi Q (BU E) E.2.2.2.1) args s 0 0 E.2.2.2.1) (F0 m 0 ls []) := by
  obtain ⟨⟨hx, hb, hml, hown, hts⟩, hr, hlk, hK, hST, hN⟩ := id X
  intro I H locs ls h hp hl
  unfold wp_X1_firstTwins at h
  refine lv_iconst (v := (nI 0)) hx hb dX1_firstTwins_0 (by decide) ?_
  refine lv_istore_n (lv' := [(1, .int (nI 0)), (0, .ref (E.2.1 (8 * j)))]) hx hb dX1_firstTwins_1 rfl hl (by decide) rfl (fun ls hl => ?_)
  obtain ⟨n101, h⟩ := h
  refine w_X1_firstTwins_2 X hj ?_ ?_ n101 _ _ _ _ _ h hp (lv_sub hl [1, 0] rfl)
  · intro x1 x2 I H locs ls h hp hl
    refine lv_bipush (v := (nI 10)) hx hb dX1_firstTwins_47 (by decide) ?_
    refine lv_iload_n hx hb dX1_firstTwins_49 rfl (lv_at hl 0 rfl) ?_
    refine lv_imul hx hb dX1_firstTwins_50 ?_
    refine lv_iload_n hx hb dX1_firstTwins_51 rfl (lv_at hl 1 rfl) ?_
    refine lv_iadd hx hb dX1_firstTwins_52 ?_
    exact rt_i X hp h dX1_firstTwins_53
  · intro I H locs ls h hp hl
    refine lv_ldc (v := (-nI 1000000)) hx hb hown (hts _ tw_k_X1_68) dX1_firstTwins_66 ?_
    exact rt_i X hp h dX1_firstTwins_68
set_option maxRecDepth 100000 in
theorem C_X1_firstTwins {E : EE} {l : Launch} {j : Nat} (hj : j < 37) {I : II} {Q : Int32 → II → Prop} (h : wp_X1_firstTwins j I Q) : Met l yX1_firstTwins (Cond.code yX1_firstTwins cX1_firstTwins 3 (some .int) :: lwT) rmX1_firstTwins (va_Pc [.ref (E.2.1 (8 * j))] (PU E I)) (va_Qi Q (BU E) E.2.2.2.1) 0 0 E.2.2.2.1 :=
  ofWalk [.ref (E.2.1 (8 * j))] (by decide) tw_c_X1_firstTwins (Nat.le_of_ble_eq_true rfl) (fun p e s m below meth c ls X hp hl => w_X1_firstTwins_0 X hj _ _ _ _ h hp hl)
abbrev rmJ6_bitCount_0f7a4 : Room := { frames := 0, cells := 0, slots := 0, locals := 0 }
theorem sf_J6_bitCount_0f7a4 : SF yJ6_bitCount_0f7a4 cJ6_bitCount_0f7a4 1 (some .int) 1 := ⟨tw_in_J6, tw_st_J6_bitCount_0f7a4, tw_c_J6_bitCount_0f7a4, by decide, by decide, by decide +kernel⟩
def wp_J6_bitCount_0f7a4 (x0 : Int32) (I : II) (Q : Int32 → II → Prop) : Prop := (Q ((((((((x0 - ((x0.toUInt32 >>> ((nI 1).toUInt32 &&& Int32.toUInt32 31)).toInt32 &&& (nI 1431655765))) &&& (nI 858993459)) + (((x0 - ((x0.toUInt32 >>> ((nI 1).toUInt32 &&& Int32.toUInt32 31)).toInt32 &&& (nI 1431655765))).toUInt32 >>> ((nI 2).toUInt32 &&& Int32.toUInt32 31)).toInt32 &&& (nI 858993459))) + ((((x0 - ((x0.toUInt32 >>> ((nI 1).toUInt32 &&& Int32.toUInt32 31)).toInt32 &&& (nI 1431655765))) &&& (nI 858993459)) + (((x0 - ((x0.toUInt32 >>> ((nI 1).toUInt32 &&& Int32.toUInt32 31)).toInt32 &&& (nI 1431655765))).toUInt32 >>> ((nI 2).toUInt32 &&& Int32.toUInt32 31)).toInt32 &&& (nI 858993459))).toUInt32 >>> ((nI 4).toUInt32 &&& Int32.toUInt32 31)).toInt32) &&& (nI 252645135)) + ((((((x0 - ((x0.toUInt32 >>> ((nI 1).toUInt32 &&& Int32.toUInt32 31)).toInt32 &&& (nI 1431655765))) &&& (nI 858993459)) + (((x0 - ((x0.toUInt32 >>> ((nI 1).toUInt32 &&& Int32.toUInt32 31)).toInt32 &&& (nI 1431655765))).toUInt32 >>> ((nI 2).toUInt32 &&& Int32.toUInt32 31)).toInt32 &&& (nI 858993459))) + ((((x0 - ((x0.toUInt32 >>> ((nI 1).toUInt32 &&& Int32.toUInt32 31)).toInt32 &&& (nI 1431655765))) &&& (nI 858993459)) + (((x0 - ((x0.toUInt32 >>> ((nI 1).toUInt32 &&& Int32.toUInt32 31)).toInt32 &&& (nI 1431655765))).toUInt32 >>> ((nI 2).toUInt32 &&& Int32.toUInt32 31)).toInt32 &&& (nI 858993459))).toUInt32 >>> ((nI 4).toUInt32 &&& Int32.toUInt32 31)).toInt32) &&& (nI 252645135)).toUInt32 >>> ((nI 8).toUInt32 &&& Int32.toUInt32 31)).toInt32) + (((((((x0 - ((x0.toUInt32 >>> ((nI 1).toUInt32 &&& Int32.toUInt32 31)).toInt32 &&& (nI 1431655765))) &&& (nI 858993459)) + (((x0 - ((x0.toUInt32 >>> ((nI 1).toUInt32 &&& Int32.toUInt32 31)).toInt32 &&& (nI 1431655765))).toUInt32 >>> ((nI 2).toUInt32 &&& Int32.toUInt32 31)).toInt32 &&& (nI 858993459))) + ((((x0 - ((x0.toUInt32 >>> ((nI 1).toUInt32 &&& Int32.toUInt32 31)).toInt32 &&& (nI 1431655765))) &&& (nI 858993459)) + (((x0 - ((x0.toUInt32 >>> ((nI 1).toUInt32 &&& Int32.toUInt32 31)).toInt32 &&& (nI 1431655765))).toUInt32 >>> ((nI 2).toUInt32 &&& Int32.toUInt32 31)).toInt32 &&& (nI 858993459))).toUInt32 >>> ((nI 4).toUInt32 &&& Int32.toUInt32 31)).toInt32) &&& (nI 252645135)) + ((((((x0 - ((x0.toUInt32 >>> ((nI 1).toUInt32 &&& Int32.toUInt32 31)).toInt32 &&& (nI 1431655765))) &&& (nI 858993459)) + (((x0 - ((x0.toUInt32 >>> ((nI 1).toUInt32 &&& Int32.toUInt32 31)).toInt32 &&& (nI 1431655765))).toUInt32 >>> ((nI 2).toUInt32 &&& Int32.toUInt32 31)).toInt32 &&& (nI 858993459))) + ((((x0 - ((x0.toUInt32 >>> ((nI 1).toUInt32 &&& Int32.toUInt32 31)).toInt32 &&& (nI 1431655765))) &&& (nI 858993459)) + (((x0 - ((x0.toUInt32 >>> ((nI 1).toUInt32 &&& Int32.toUInt32 31)).toInt32 &&& (nI 1431655765))).toUInt32 >>> ((nI 2).toUInt32 &&& Int32.toUInt32 31)).toInt32 &&& (nI 858993459))).toUInt32 >>> ((nI 4).toUInt32 &&& Int32.toUInt32 31)).toInt32) &&& (nI 252645135)).toUInt32 >>> ((nI 8).toUInt32 &&& Int32.toUInt32 31)).toInt32).toUInt32 >>> ((nI 16).toUInt32 &&& Int32.toUInt32 31)).toInt32) &&& (nI 63)) I)
set_option maxHeartbeats 4000000 in
set_option maxRecDepth 100000 in
theorem w_J6_bitCount_0f7a4_0 {E : EE} {p : Program} {l : Launch} {e : Env} {s : State} {m : MethodId} {args : Array Value} {below : List Frame} {meth : Method} {c : Code} {Q : Int32 → II → Prop} (X : CX E p s m args meth c cJ6_bitCount_0f7a4 1 (some .int) RJ6) : ∀ (x0 : Int32) (I : II) (H : Heap) (locs : List Loc) (ls : Array Slot), wp_J6_bitCount_0f7a4 x0 I Q → PP E s H locs I → lv_has ls 1 [(0, .int x0)] → W p l e rmJ6_bitCount_0f7a4 s m args below meth c H locs 0 0 (MQ below (va_Qi Q (BU E) E.2.2.2.1) args s 0 0 E.2.2.2.1) (F0 m 0 ls []) := by
  obtain ⟨⟨hx, hb, hml, hown, hts⟩, hr, hlk, hK, hST, hN⟩ := id X
  intro x0 I H locs ls h hp hl
  unfold wp_J6_bitCount_0f7a4 at h
  refine lv_iload_n hx hb dJ6_bitCount_0f7a4_0 rfl (lv_at hl 0 rfl) ?_
  refine lv_iload_n hx hb dJ6_bitCount_0f7a4_1 rfl (lv_at hl 0 rfl) ?_
  refine lv_iconst (v := (nI 1)) hx hb dJ6_bitCount_0f7a4_2 (by decide) ?_
  refine lv_iushr (v := (x0.toUInt32 >>> ((nI 1).toUInt32 &&& Int32.toUInt32 31)).toInt32) hx hb dJ6_bitCount_0f7a4_3 rfl ?_
  refine lv_ldcw (v := (nI 1431655765)) hx hb hown (hts _ tw_k_J6_265) dJ6_bitCount_0f7a4_4 ?_
  refine lv_iand hx hb dJ6_bitCount_0f7a4_7 ?_
  refine lv_isub hx hb dJ6_bitCount_0f7a4_8 ?_
  refine lv_istore_n (lv' := [(0, .int (x0 - ((x0.toUInt32 >>> ((nI 1).toUInt32 &&& Int32.toUInt32 31)).toInt32 &&& (nI 1431655765))))]) hx hb dJ6_bitCount_0f7a4_9 rfl hl (by decide) rfl (fun ls hl => ?_)
  refine lv_iload_n hx hb dJ6_bitCount_0f7a4_10 rfl (lv_at hl 0 rfl) ?_
  refine lv_ldcw (v := (nI 858993459)) hx hb hown (hts _ tw_k_J6_266) dJ6_bitCount_0f7a4_11 ?_
  refine lv_iand hx hb dJ6_bitCount_0f7a4_14 ?_
  refine lv_iload_n hx hb dJ6_bitCount_0f7a4_15 rfl (lv_at hl 0 rfl) ?_
  refine lv_iconst (v := (nI 2)) hx hb dJ6_bitCount_0f7a4_16 (by decide) ?_
  refine lv_iushr (v := ((x0 - ((x0.toUInt32 >>> ((nI 1).toUInt32 &&& Int32.toUInt32 31)).toInt32 &&& (nI 1431655765))).toUInt32 >>> ((nI 2).toUInt32 &&& Int32.toUInt32 31)).toInt32) hx hb dJ6_bitCount_0f7a4_17 rfl ?_
  refine lv_ldcw (v := (nI 858993459)) hx hb hown (hts _ tw_k_J6_266) dJ6_bitCount_0f7a4_18 ?_
  refine lv_iand hx hb dJ6_bitCount_0f7a4_21 ?_
  refine lv_iadd hx hb dJ6_bitCount_0f7a4_22 ?_
  refine lv_istore_n (lv' := [(0, .int (((x0 - ((x0.toUInt32 >>> ((nI 1).toUInt32 &&& Int32.toUInt32 31)).toInt32 &&& (nI 1431655765))) &&& (nI 858993459)) + (((x0 - ((x0.toUInt32 >>> ((nI 1).toUInt32 &&& Int32.toUInt32 31)).toInt32 &&& (nI 1431655765))).toUInt32 >>> ((nI 2).toUInt32 &&& Int32.toUInt32 31)).toInt32 &&& (nI 858993459))))]) hx hb dJ6_bitCount_0f7a4_23 rfl hl (by decide) rfl (fun ls hl => ?_)
  refine lv_iload_n hx hb dJ6_bitCount_0f7a4_24 rfl (lv_at hl 0 rfl) ?_
  refine lv_iload_n hx hb dJ6_bitCount_0f7a4_25 rfl (lv_at hl 0 rfl) ?_
  refine lv_iconst (v := (nI 4)) hx hb dJ6_bitCount_0f7a4_26 (by decide) ?_
  refine lv_iushr (v := ((((x0 - ((x0.toUInt32 >>> ((nI 1).toUInt32 &&& Int32.toUInt32 31)).toInt32 &&& (nI 1431655765))) &&& (nI 858993459)) + (((x0 - ((x0.toUInt32 >>> ((nI 1).toUInt32 &&& Int32.toUInt32 31)).toInt32 &&& (nI 1431655765))).toUInt32 >>> ((nI 2).toUInt32 &&& Int32.toUInt32 31)).toInt32 &&& (nI 858993459))).toUInt32 >>> ((nI 4).toUInt32 &&& Int32.toUInt32 31)).toInt32) hx hb dJ6_bitCount_0f7a4_27 rfl ?_
  refine lv_iadd hx hb dJ6_bitCount_0f7a4_28 ?_
  refine lv_ldcw (v := (nI 252645135)) hx hb hown (hts _ tw_k_J6_267) dJ6_bitCount_0f7a4_29 ?_
  refine lv_iand hx hb dJ6_bitCount_0f7a4_32 ?_
  refine lv_istore_n (lv' := [(0, .int (((((x0 - ((x0.toUInt32 >>> ((nI 1).toUInt32 &&& Int32.toUInt32 31)).toInt32 &&& (nI 1431655765))) &&& (nI 858993459)) + (((x0 - ((x0.toUInt32 >>> ((nI 1).toUInt32 &&& Int32.toUInt32 31)).toInt32 &&& (nI 1431655765))).toUInt32 >>> ((nI 2).toUInt32 &&& Int32.toUInt32 31)).toInt32 &&& (nI 858993459))) + ((((x0 - ((x0.toUInt32 >>> ((nI 1).toUInt32 &&& Int32.toUInt32 31)).toInt32 &&& (nI 1431655765))) &&& (nI 858993459)) + (((x0 - ((x0.toUInt32 >>> ((nI 1).toUInt32 &&& Int32.toUInt32 31)).toInt32 &&& (nI 1431655765))).toUInt32 >>> ((nI 2).toUInt32 &&& Int32.toUInt32 31)).toInt32 &&& (nI 858993459))).toUInt32 >>> ((nI 4).toUInt32 &&& Int32.toUInt32 31)).toInt32) &&& (nI 252645135)))]) hx hb dJ6_bitCount_0f7a4_33 rfl hl (by decide) rfl (fun ls hl => ?_)
  refine lv_iload_n hx hb dJ6_bitCount_0f7a4_34 rfl (lv_at hl 0 rfl) ?_
  refine lv_iload_n hx hb dJ6_bitCount_0f7a4_35 rfl (lv_at hl 0 rfl) ?_
  refine lv_bipush (v := (nI 8)) hx hb dJ6_bitCount_0f7a4_36 (by decide) ?_
  refine lv_iushr (v := ((((((x0 - ((x0.toUInt32 >>> ((nI 1).toUInt32 &&& Int32.toUInt32 31)).toInt32 &&& (nI 1431655765))) &&& (nI 858993459)) + (((x0 - ((x0.toUInt32 >>> ((nI 1).toUInt32 &&& Int32.toUInt32 31)).toInt32 &&& (nI 1431655765))).toUInt32 >>> ((nI 2).toUInt32 &&& Int32.toUInt32 31)).toInt32 &&& (nI 858993459))) + ((((x0 - ((x0.toUInt32 >>> ((nI 1).toUInt32 &&& Int32.toUInt32 31)).toInt32 &&& (nI 1431655765))) &&& (nI 858993459)) + (((x0 - ((x0.toUInt32 >>> ((nI 1).toUInt32 &&& Int32.toUInt32 31)).toInt32 &&& (nI 1431655765))).toUInt32 >>> ((nI 2).toUInt32 &&& Int32.toUInt32 31)).toInt32 &&& (nI 858993459))).toUInt32 >>> ((nI 4).toUInt32 &&& Int32.toUInt32 31)).toInt32) &&& (nI 252645135)).toUInt32 >>> ((nI 8).toUInt32 &&& Int32.toUInt32 31)).toInt32) hx hb dJ6_bitCount_0f7a4_38 rfl ?_
  refine lv_iadd hx hb dJ6_bitCount_0f7a4_39 ?_
  refine lv_istore_n (lv' := [(0, .int ((((((x0 - ((x0.toUInt32 >>> ((nI 1).toUInt32 &&& Int32.toUInt32 31)).toInt32 &&& (nI 1431655765))) &&& (nI 858993459)) + (((x0 - ((x0.toUInt32 >>> ((nI 1).toUInt32 &&& Int32.toUInt32 31)).toInt32 &&& (nI 1431655765))).toUInt32 >>> ((nI 2).toUInt32 &&& Int32.toUInt32 31)).toInt32 &&& (nI 858993459))) + ((((x0 - ((x0.toUInt32 >>> ((nI 1).toUInt32 &&& Int32.toUInt32 31)).toInt32 &&& (nI 1431655765))) &&& (nI 858993459)) + (((x0 - ((x0.toUInt32 >>> ((nI 1).toUInt32 &&& Int32.toUInt32 31)).toInt32 &&& (nI 1431655765))).toUInt32 >>> ((nI 2).toUInt32 &&& Int32.toUInt32 31)).toInt32 &&& (nI 858993459))).toUInt32 >>> ((nI 4).toUInt32 &&& Int32.toUInt32 31)).toInt32) &&& (nI 252645135)) + ((((((x0 - ((x0.toUInt32 >>> ((nI 1).toUInt32 &&& Int32.toUInt32 31)).toInt32 &&& (nI 1431655765))) &&& (nI 858993459)) + (((x0 - ((x0.toUInt32 >>> ((nI 1).toUInt32 &&& Int32.toUInt32 31)).toInt32 &&& (nI 1431655765))).toUInt32 >>> ((nI 2).toUInt32 &&& Int32.toUInt32 31)).toInt32 &&& (nI 858993459))) + ((((x0 - ((x0.toUInt32 >>> ((nI 1).toUInt32 &&& Int32.toUInt32 31)).toInt32 &&& (nI 1431655765))) &&& (nI 858993459)) + (((x0 - ((x0.toUInt32 >>> ((nI 1).toUInt32 &&& Int32.toUInt32 31)).toInt32 &&& (nI 1431655765))).toUInt32 >>> ((nI 2).toUInt32 &&& Int32.toUInt32 31)).toInt32 &&& (nI 858993459))).toUInt32 >>> ((nI 4).toUInt32 &&& Int32.toUInt32 31)).toInt32) &&& (nI 252645135)).toUInt32 >>> ((nI 8).toUInt32 &&& Int32.toUInt32 31)).toInt32))]) hx hb dJ6_bitCount_0f7a4_40 rfl hl (by decide) rfl (fun ls hl => ?_)
  refine lv_iload_n hx hb dJ6_bitCount_0f7a4_41 rfl (lv_at hl 0 rfl) ?_
  refine lv_iload_n hx hb dJ6_bitCount_0f7a4_42 rfl (lv_at hl 0 rfl) ?_
  refine lv_bipush (v := (nI 16)) hx hb dJ6_bitCount_0f7a4_43 (by decide) ?_
  refine lv_iushr (v := (((((((x0 - ((x0.toUInt32 >>> ((nI 1).toUInt32 &&& Int32.toUInt32 31)).toInt32 &&& (nI 1431655765))) &&& (nI 858993459)) + (((x0 - ((x0.toUInt32 >>> ((nI 1).toUInt32 &&& Int32.toUInt32 31)).toInt32 &&& (nI 1431655765))).toUInt32 >>> ((nI 2).toUInt32 &&& Int32.toUInt32 31)).toInt32 &&& (nI 858993459))) + ((((x0 - ((x0.toUInt32 >>> ((nI 1).toUInt32 &&& Int32.toUInt32 31)).toInt32 &&& (nI 1431655765))) &&& (nI 858993459)) + (((x0 - ((x0.toUInt32 >>> ((nI 1).toUInt32 &&& Int32.toUInt32 31)).toInt32 &&& (nI 1431655765))).toUInt32 >>> ((nI 2).toUInt32 &&& Int32.toUInt32 31)).toInt32 &&& (nI 858993459))).toUInt32 >>> ((nI 4).toUInt32 &&& Int32.toUInt32 31)).toInt32) &&& (nI 252645135)) + ((((((x0 - ((x0.toUInt32 >>> ((nI 1).toUInt32 &&& Int32.toUInt32 31)).toInt32 &&& (nI 1431655765))) &&& (nI 858993459)) + (((x0 - ((x0.toUInt32 >>> ((nI 1).toUInt32 &&& Int32.toUInt32 31)).toInt32 &&& (nI 1431655765))).toUInt32 >>> ((nI 2).toUInt32 &&& Int32.toUInt32 31)).toInt32 &&& (nI 858993459))) + ((((x0 - ((x0.toUInt32 >>> ((nI 1).toUInt32 &&& Int32.toUInt32 31)).toInt32 &&& (nI 1431655765))) &&& (nI 858993459)) + (((x0 - ((x0.toUInt32 >>> ((nI 1).toUInt32 &&& Int32.toUInt32 31)).toInt32 &&& (nI 1431655765))).toUInt32 >>> ((nI 2).toUInt32 &&& Int32.toUInt32 31)).toInt32 &&& (nI 858993459))).toUInt32 >>> ((nI 4).toUInt32 &&& Int32.toUInt32 31)).toInt32) &&& (nI 252645135)).toUInt32 >>> ((nI 8).toUInt32 &&& Int32.toUInt32 31)).toInt32).toUInt32 >>> ((nI 16).toUInt32 &&& Int32.toUInt32 31)).toInt32) hx hb dJ6_bitCount_0f7a4_45 rfl ?_
  refine lv_iadd hx hb dJ6_bitCount_0f7a4_46 ?_
  refine lv_istore_n (lv' := [(0, .int (((((((x0 - ((x0.toUInt32 >>> ((nI 1).toUInt32 &&& Int32.toUInt32 31)).toInt32 &&& (nI 1431655765))) &&& (nI 858993459)) + (((x0 - ((x0.toUInt32 >>> ((nI 1).toUInt32 &&& Int32.toUInt32 31)).toInt32 &&& (nI 1431655765))).toUInt32 >>> ((nI 2).toUInt32 &&& Int32.toUInt32 31)).toInt32 &&& (nI 858993459))) + ((((x0 - ((x0.toUInt32 >>> ((nI 1).toUInt32 &&& Int32.toUInt32 31)).toInt32 &&& (nI 1431655765))) &&& (nI 858993459)) + (((x0 - ((x0.toUInt32 >>> ((nI 1).toUInt32 &&& Int32.toUInt32 31)).toInt32 &&& (nI 1431655765))).toUInt32 >>> ((nI 2).toUInt32 &&& Int32.toUInt32 31)).toInt32 &&& (nI 858993459))).toUInt32 >>> ((nI 4).toUInt32 &&& Int32.toUInt32 31)).toInt32) &&& (nI 252645135)) + ((((((x0 - ((x0.toUInt32 >>> ((nI 1).toUInt32 &&& Int32.toUInt32 31)).toInt32 &&& (nI 1431655765))) &&& (nI 858993459)) + (((x0 - ((x0.toUInt32 >>> ((nI 1).toUInt32 &&& Int32.toUInt32 31)).toInt32 &&& (nI 1431655765))).toUInt32 >>> ((nI 2).toUInt32 &&& Int32.toUInt32 31)).toInt32 &&& (nI 858993459))) + ((((x0 - ((x0.toUInt32 >>> ((nI 1).toUInt32 &&& Int32.toUInt32 31)).toInt32 &&& (nI 1431655765))) &&& (nI 858993459)) + (((x0 - ((x0.toUInt32 >>> ((nI 1).toUInt32 &&& Int32.toUInt32 31)).toInt32 &&& (nI 1431655765))).toUInt32 >>> ((nI 2).toUInt32 &&& Int32.toUInt32 31)).toInt32 &&& (nI 858993459))).toUInt32 >>> ((nI 4).toUInt32 &&& Int32.toUInt32 31)).toInt32) &&& (nI 252645135)).toUInt32 >>> ((nI 8).toUInt32 &&& Int32.toUInt32 31)).toInt32) + (((((((x0 - ((x0.toUInt32 >>> ((nI 1).toUInt32 &&& Int32.toUInt32 31)).toInt32 &&& (nI 1431655765))) &&& (nI 858993459)) + (((x0 - ((x0.toUInt32 >>> ((nI 1).toUInt32 &&& Int32.toUInt32 31)).toInt32 &&& (nI 1431655765))).toUInt32 >>> ((nI 2).toUInt32 &&& Int32.toUInt32 31)).toInt32 &&& (nI 858993459))) + ((((x0 - ((x0.toUInt32 >>> ((nI 1).toUInt32 &&& Int32.toUInt32 31)).toInt32 &&& (nI 1431655765))) &&& (nI 858993459)) + (((x0 - ((x0.toUInt32 >>> ((nI 1).toUInt32 &&& Int32.toUInt32 31)).toInt32 &&& (nI 1431655765))).toUInt32 >>> ((nI 2).toUInt32 &&& Int32.toUInt32 31)).toInt32 &&& (nI 858993459))).toUInt32 >>> ((nI 4).toUInt32 &&& Int32.toUInt32 31)).toInt32) &&& (nI 252645135)) + ((((((x0 - ((x0.toUInt32 >>> ((nI 1).toUInt32 &&& Int32.toUInt32 31)).toInt32 &&& (nI 1431655765))) &&& (nI 858993459)) + (((x0 - ((x0.toUInt32 >>> ((nI 1).toUInt32 &&& Int32.toUInt32 31)).toInt32 &&& (nI 1431655765))).toUInt32 >>> ((nI 2).toUInt32 &&& Int32.toUInt32 31)).toInt32 &&& (nI 858993459))) + ((((x0 - ((x0.toUInt32 >>> ((nI 1).toUInt32 &&& Int32.toUInt32 31)).toInt32 &&& (nI 1431655765))) &&& (nI 858993459)) + (((x0 - ((x0.toUInt32 >>> ((nI 1).toUInt32 &&& Int32.toUInt32 31)).toInt32 &&& (nI 1431655765))).toUInt32 >>> ((nI 2).toUInt32 &&& Int32.toUInt32 31)).toInt32 &&& (nI 858993459))).toUInt32 >>> ((nI 4).toUInt32 &&& Int32.toUInt32 31)).toInt32) &&& (nI 252645135)).toUInt32 >>> ((nI 8).toUInt32 &&& Int32.toUInt32 31)).toInt32).toUInt32 >>> ((nI 16).toUInt32 &&& Int32.toUInt32 31)).toInt32))]) hx hb dJ6_bitCount_0f7a4_47 rfl hl (by decide) rfl (fun ls hl => ?_)
  refine lv_iload_n hx hb dJ6_bitCount_0f7a4_48 rfl (lv_at hl 0 rfl) ?_
  refine lv_bipush (v := (nI 63)) hx hb dJ6_bitCount_0f7a4_49 (by decide) ?_
  refine lv_iand hx hb dJ6_bitCount_0f7a4_51 ?_
  exact rt_i X hp h dJ6_bitCount_0f7a4_52
set_option maxRecDepth 100000 in
theorem C_J6_bitCount_0f7a4 {E : EE} {l : Launch} {x0 : Int32} {I : II} {Q : Int32 → II → Prop} (h : wp_J6_bitCount_0f7a4 x0 I Q) : Met l yJ6_bitCount_0f7a4 (Cond.code yJ6_bitCount_0f7a4 cJ6_bitCount_0f7a4 1 (some .int) :: lwT) rmJ6_bitCount_0f7a4 (va_Pc [.int x0] (PU E I)) (va_Qi Q (BU E) E.2.2.2.1) 0 0 E.2.2.2.1 :=
  ofWalk [.int x0] (by decide) tw_c_J6_bitCount_0f7a4 (Nat.le_of_ble_eq_true rfl) (fun p e s m below meth c ls X hp hl => w_J6_bitCount_0f7a4_0 X _ _ _ _ _ h hp hl)

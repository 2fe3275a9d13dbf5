abbrev b0 : va_E := .inr (1, [.int 0, .int 0, .int 0, .int 0, .int 0, .int 0, .int 0, .int 0, .int 0, .int 0, .null, .null, .null, .null, .null, .null, .null])
def bk8 (T : ClassId × ClassId × ClassId) (h : Nat → Nat) : va_W := [(h 0, .inr (1, [.int 0, .int 0, .int 0, .int 0, .int 0, .int 0, .int 0, .int 0, .int 0, .int 0, .ref (h 1), .ref (h 2), .ref (h 3), .ref (h 4), .ref (h 5), .ref (h 6), .ref (h 7)])), (h 1, .inl (T.1, 4, .inl zf)), (h 2, .inl (T.1, 4, .inl zf)), (h 3, .inl (T.1, 4, .inl zf)), (h 4, .inl (T.1, 4, .inl zf)), (h 5, .inl (T.1, 4, .inl zf)), (h 6, .inl (T.1, 7, .inl zf)), (h 7, .inl (T.1, 7, .inl zf))]
def bks (T : ClassId × ClassId × ClassId) (hb : Nat → Nat → Nat) : Nat → va_W
  | 0 => []
  | n + 1 => bks T hb n ++ bk8 T (hb n)
theorem bks_congr {T : ClassId × ClassId × ClassId} {f g : Nat → Nat → Nat} : ∀ n, (∀ i, i < n → f i = g i) → bks T f n = bks T g n := by
  intro n
  induction n with
  | zero => intro _; rfl
  | succ n ih => intro h; rw [bks, bks, ih (fun i hi => h i (by omega)), h n (by omega)]
theorem bks_up {T : ClassId × ClassId × ClassId} {hb : Nat → Nat → Nat} {n : Nat} {h : Nat → Nat} : bks T hb n ++ bk8 T h = bks T (va_up hb n h) (n + 1) := by
  rw [bks, va_up_self, bks_congr (f := hb) (g := va_up hb n h) n (fun i hi => (va_up_ne hb h (by omega)).symm)]
def rfs (hb : Nat → Nat → Nat) (n : Nat) : Nat → Option Nat := fun i => if i < n then some (hb i 0) else none
theorem rfs_up {hb : Nat → Nat → Nat} {n q : Nat} {h : Nat → Nat} (e : h 0 = q) : va_up (rfs hb n) n (some q) = rfs (va_up hb n h) (n + 1) := by
  funext i
  unfold rfs
  by_cases c : i = n
  · subst c; rw [va_up_self, if_pos (by omega), va_up_self, e]
  · rw [va_up_ne _ _ c, va_up_ne _ _ c]
    by_cases c2 : i < n
    · rw [if_pos c2, if_pos (by omega)]
    · rw [if_neg c2, if_neg (by omega)]
theorem rfs_0 (hb : Nat → Nat → Nat) : (fun _ => none) = rfs hb 0 := by
  funext i; unfold rfs; rw [if_neg (by omega)]
theorem if_X1 : IF yX1_init cX1_init 1 := ⟨tw_in_X1, tw_im_X1_init, tw_c_X1_init, rfl, by decide, by decide, by decide +kernel⟩
abbrev rmX1_init : Room := { frames := 1, cells := 7, slots := 34, locals := 12 }
def poX1 (T : ClassId × ClassId × ClassId) (h0 : Nat) (w : va_W) : Prop := ∃ h : Nat → Nat, h 0 = h0 ∧ w = bk8 T h
set_option maxHeartbeats 4000000 in
set_option maxRecDepth 100000 in
theorem C_X1_init {D : va_G} {T : ClassId × ClassId × ClassId} {l : Launch} (h0 sz : Nat) : IM l yX1_init cX1_init 1 rmX1_init D T h0 (.inr (1, [.int 0, .int 0, .int 0, .int 0, .int 0, .int 0, .int 0, .int 0, .int 0, .int 0, .null, .null, .null, .null, .null, .null, .null])) sz (poX1 T h0) 7 34 := by
  refine ofWalkI (by decide) rfl (Nat.le_of_ble_eq_true rfl) (fun p e s m below meth c ls A X w hl => ?_)
  obtain ⟨⟨⟨hx, hb, hml, hown, hts⟩, hk⟩, hr, hlk, hnm⟩ := id X
  refine lv_aload_n hx hb dX1_init_0 rfl (lv_at hl 0 rfl) ?_
  refine oi X.1 tw_ml_X1_3 hl.1 ⟨Nat.le_of_ble_eq_true rfl, Nat.le_of_ble_eq_true rfl⟩ dX1_init_1 ?_
  refine lv_aload_n hx hb dX1_init_4 rfl (lv_at hl 0 rfl) ?_
  refine lv_iconst (v := (nI 4)) hx hb dX1_init_5 (by decide) ?_
  refine nw_i X.1 w (by decide) (N := 4) (by decide) (Nat.le_of_ble_eq_true rfl) (Nat.le_of_ble_eq_true rfl) (Nat.le_of_ble_eq_true rfl) dX1_init_6 (fun q1 H w => ?_)
  have w : WW D A s _ _ ([(h0, .inr (1, [.int 0, .int 0, .int 0, .int 0, .int 0, .int 0, .int 0, .int 0, .int 0, .int 0, .null, .null, .null, .null, .null, .null, .null])), (q1, .inl (T.1, 4, .inl zf))]) := w
  refine pf X (slot := 10) (ty := .array .int) w rfl inX1 tyX1 tyX1_ok nmX1 (by decide) tw_fl_X1_9 rfl rfl (by decide +kernel) rfl rfl (Nat.le_of_ble_eq_true rfl) dX1_init_8 (fun H locs w => ?_)
  have w : WW D A s _ _ ([(h0, .inr (1, [.int 0, .int 0, .int 0, .int 0, .int 0, .int 0, .int 0, .int 0, .int 0, .int 0, .ref q1, .null, .null, .null, .null, .null, .null])), (q1, .inl (T.1, 4, .inl zf))]) := w
  refine lv_aload_n hx hb dX1_init_11 rfl (lv_at hl 0 rfl) ?_
  refine lv_iconst (v := (nI 4)) hx hb dX1_init_12 (by decide) ?_
  refine nw_i X.1 w (by decide) (N := 4) (by decide) (Nat.le_of_ble_eq_true rfl) (Nat.le_of_ble_eq_true rfl) (Nat.le_of_ble_eq_true rfl) dX1_init_13 (fun q2 H w => ?_)
  have w : WW D A s _ _ ([(h0, .inr (1, [.int 0, .int 0, .int 0, .int 0, .int 0, .int 0, .int 0, .int 0, .int 0, .int 0, .ref q1, .null, .null, .null, .null, .null, .null])), (q1, .inl (T.1, 4, .inl zf)), (q2, .inl (T.1, 4, .inl zf))]) := w
  refine pf X (slot := 11) (ty := .array .int) w rfl inX1 tyX1 tyX1_ok nmX1 (by decide) tw_fl_X1_15 rfl rfl (by decide +kernel) rfl rfl (Nat.le_of_ble_eq_true rfl) dX1_init_15 (fun H locs w => ?_)
  have w : WW D A s _ _ ([(h0, .inr (1, [.int 0, .int 0, .int 0, .int 0, .int 0, .int 0, .int 0, .int 0, .int 0, .int 0, .ref q1, .ref q2, .null, .null, .null, .null, .null])), (q1, .inl (T.1, 4, .inl zf)), (q2, .inl (T.1, 4, .inl zf))]) := w
  refine lv_aload_n hx hb dX1_init_18 rfl (lv_at hl 0 rfl) ?_
  refine lv_iconst (v := (nI 4)) hx hb dX1_init_19 (by decide) ?_
  refine nw_i X.1 w (by decide) (N := 4) (by decide) (Nat.le_of_ble_eq_true rfl) (Nat.le_of_ble_eq_true rfl) (Nat.le_of_ble_eq_true rfl) dX1_init_20 (fun q3 H w => ?_)
  have w : WW D A s _ _ ([(h0, .inr (1, [.int 0, .int 0, .int 0, .int 0, .int 0, .int 0, .int 0, .int 0, .int 0, .int 0, .ref q1, .ref q2, .null, .null, .null, .null, .null])), (q1, .inl (T.1, 4, .inl zf)), (q2, .inl (T.1, 4, .inl zf)), (q3, .inl (T.1, 4, .inl zf))]) := w
  refine pf X (slot := 12) (ty := .array .int) w rfl inX1 tyX1 tyX1_ok nmX1 (by decide) tw_fl_X1_18 rfl rfl (by decide +kernel) rfl rfl (Nat.le_of_ble_eq_true rfl) dX1_init_22 (fun H locs w => ?_)
  have w : WW D A s _ _ ([(h0, .inr (1, [.int 0, .int 0, .int 0, .int 0, .int 0, .int 0, .int 0, .int 0, .int 0, .int 0, .ref q1, .ref q2, .ref q3, .null, .null, .null, .null])), (q1, .inl (T.1, 4, .inl zf)), (q2, .inl (T.1, 4, .inl zf)), (q3, .inl (T.1, 4, .inl zf))]) := w
  refine lv_aload_n hx hb dX1_init_25 rfl (lv_at hl 0 rfl) ?_
  refine lv_iconst (v := (nI 4)) hx hb dX1_init_26 (by decide) ?_
  refine nw_i X.1 w (by decide) (N := 4) (by decide) (Nat.le_of_ble_eq_true rfl) (Nat.le_of_ble_eq_true rfl) (Nat.le_of_ble_eq_true rfl) dX1_init_27 (fun q4 H w => ?_)
  have w : WW D A s _ _ ([(h0, .inr (1, [.int 0, .int 0, .int 0, .int 0, .int 0, .int 0, .int 0, .int 0, .int 0, .int 0, .ref q1, .ref q2, .ref q3, .null, .null, .null, .null])), (q1, .inl (T.1, 4, .inl zf)), (q2, .inl (T.1, 4, .inl zf)), (q3, .inl (T.1, 4, .inl zf)), (q4, .inl (T.1, 4, .inl zf))]) := w
  refine pf X (slot := 13) (ty := .array .int) w rfl inX1 tyX1 tyX1_ok nmX1 (by decide) tw_fl_X1_21 rfl rfl (by decide +kernel) rfl rfl (Nat.le_of_ble_eq_true rfl) dX1_init_29 (fun H locs w => ?_)
  have w : WW D A s _ _ ([(h0, .inr (1, [.int 0, .int 0, .int 0, .int 0, .int 0, .int 0, .int 0, .int 0, .int 0, .int 0, .ref q1, .ref q2, .ref q3, .ref q4, .null, .null, .null])), (q1, .inl (T.1, 4, .inl zf)), (q2, .inl (T.1, 4, .inl zf)), (q3, .inl (T.1, 4, .inl zf)), (q4, .inl (T.1, 4, .inl zf))]) := w
  refine lv_aload_n hx hb dX1_init_32 rfl (lv_at hl 0 rfl) ?_
  refine lv_iconst (v := (nI 4)) hx hb dX1_init_33 (by decide) ?_
  refine nw_i X.1 w (by decide) (N := 4) (by decide) (Nat.le_of_ble_eq_true rfl) (Nat.le_of_ble_eq_true rfl) (Nat.le_of_ble_eq_true rfl) dX1_init_34 (fun q5 H w => ?_)
  have w : WW D A s _ _ ([(h0, .inr (1, [.int 0, .int 0, .int 0, .int 0, .int 0, .int 0, .int 0, .int 0, .int 0, .int 0, .ref q1, .ref q2, .ref q3, .ref q4, .null, .null, .null])), (q1, .inl (T.1, 4, .inl zf)), (q2, .inl (T.1, 4, .inl zf)), (q3, .inl (T.1, 4, .inl zf)), (q4, .inl (T.1, 4, .inl zf)), (q5, .inl (T.1, 4, .inl zf))]) := w
  refine pf X (slot := 14) (ty := .array .int) w rfl inX1 tyX1 tyX1_ok nmX1 (by decide) tw_fl_X1_24 rfl rfl (by decide +kernel) rfl rfl (Nat.le_of_ble_eq_true rfl) dX1_init_36 (fun H locs w => ?_)
  have w : WW D A s _ _ ([(h0, .inr (1, [.int 0, .int 0, .int 0, .int 0, .int 0, .int 0, .int 0, .int 0, .int 0, .int 0, .ref q1, .ref q2, .ref q3, .ref q4, .ref q5, .null, .null])), (q1, .inl (T.1, 4, .inl zf)), (q2, .inl (T.1, 4, .inl zf)), (q3, .inl (T.1, 4, .inl zf)), (q4, .inl (T.1, 4, .inl zf)), (q5, .inl (T.1, 4, .inl zf))]) := w
  refine lv_aload_n hx hb dX1_init_39 rfl (lv_at hl 0 rfl) ?_
  refine lv_bipush (v := (nI 7)) hx hb dX1_init_40 (by decide) ?_
  refine nw_i X.1 w (by decide) (N := 7) (by decide) (Nat.le_of_ble_eq_true rfl) (Nat.le_of_ble_eq_true rfl) (Nat.le_of_ble_eq_true rfl) dX1_init_42 (fun q6 H w => ?_)
  have w : WW D A s _ _ ([(h0, .inr (1, [.int 0, .int 0, .int 0, .int 0, .int 0, .int 0, .int 0, .int 0, .int 0, .int 0, .ref q1, .ref q2, .ref q3, .ref q4, .ref q5, .null, .null])), (q1, .inl (T.1, 4, .inl zf)), (q2, .inl (T.1, 4, .inl zf)), (q3, .inl (T.1, 4, .inl zf)), (q4, .inl (T.1, 4, .inl zf)), (q5, .inl (T.1, 4, .inl zf)), (q6, .inl (T.1, 7, .inl zf))]) := w
  refine pf X (slot := 15) (ty := .array .int) w rfl inX1 tyX1 tyX1_ok nmX1 (by decide) tw_fl_X1_27 rfl rfl (by decide +kernel) rfl rfl (Nat.le_of_ble_eq_true rfl) dX1_init_44 (fun H locs w => ?_)
  have w : WW D A s _ _ ([(h0, .inr (1, [.int 0, .int 0, .int 0, .int 0, .int 0, .int 0, .int 0, .int 0, .int 0, .int 0, .ref q1, .ref q2, .ref q3, .ref q4, .ref q5, .ref q6, .null])), (q1, .inl (T.1, 4, .inl zf)), (q2, .inl (T.1, 4, .inl zf)), (q3, .inl (T.1, 4, .inl zf)), (q4, .inl (T.1, 4, .inl zf)), (q5, .inl (T.1, 4, .inl zf)), (q6, .inl (T.1, 7, .inl zf))]) := w
  refine lv_aload_n hx hb dX1_init_47 rfl (lv_at hl 0 rfl) ?_
  refine lv_bipush (v := (nI 7)) hx hb dX1_init_48 (by decide) ?_
  refine nw_i X.1 w (by decide) (N := 7) (by decide) (Nat.le_of_ble_eq_true rfl) (Nat.le_of_ble_eq_true rfl) (Nat.le_of_ble_eq_true rfl) dX1_init_50 (fun q7 H w => ?_)
  have w : WW D A s _ _ ([(h0, .inr (1, [.int 0, .int 0, .int 0, .int 0, .int 0, .int 0, .int 0, .int 0, .int 0, .int 0, .ref q1, .ref q2, .ref q3, .ref q4, .ref q5, .ref q6, .null])), (q1, .inl (T.1, 4, .inl zf)), (q2, .inl (T.1, 4, .inl zf)), (q3, .inl (T.1, 4, .inl zf)), (q4, .inl (T.1, 4, .inl zf)), (q5, .inl (T.1, 4, .inl zf)), (q6, .inl (T.1, 7, .inl zf)), (q7, .inl (T.1, 7, .inl zf))]) := w
  refine pf X (slot := 16) (ty := .array .int) w rfl inX1 tyX1 tyX1_ok nmX1 (by decide) tw_fl_X1_30 rfl rfl (by decide +kernel) rfl rfl (Nat.le_of_ble_eq_true rfl) dX1_init_52 (fun H locs w => ?_)
  have w : WW D A s _ _ ([(h0, .inr (1, [.int 0, .int 0, .int 0, .int 0, .int 0, .int 0, .int 0, .int 0, .int 0, .int 0, .ref q1, .ref q2, .ref q3, .ref q4, .ref q5, .ref q6, .ref q7])), (q1, .inl (T.1, 4, .inl zf)), (q2, .inl (T.1, 4, .inl zf)), (q3, .inl (T.1, 4, .inl zf)), (q4, .inl (T.1, 4, .inl zf)), (q5, .inl (T.1, 4, .inl zf)), (q6, .inl (T.1, 7, .inl zf)), (q7, .inl (T.1, 7, .inl zf))]) := w
  refine W.widen (k := 7) (n := 34) (Nat.le_of_ble_eq_true rfl) (Nat.le_of_ble_eq_true rfl) ?_
  exact rt_I X w ⟨fun k => if k = 0 then h0 else if k = 1 then q1 else if k = 2 then q2 else if k = 3 then q3 else if k = 4 then q4 else if k = 5 then q5 else if k = 6 then q6 else q7, rfl, rfl⟩ dX1_init_55
theorem mem_b {T : ClassId × ClassId × ClassId} {q : Nat} {w : va_W} (h : poX1 T q w) : ∃ vs, (q, .inr (1, vs)) ∈ w := by
  obtain ⟨h, e1, e2⟩ := h
  rw [e2, ← e1]
  exact ⟨_, List.mem_cons_self⟩
theorem if_X0 : IF yX0_init cX0_init 1 := ⟨tw_in_X0, tw_im_X0_init, tw_c_X0_init, rfl, by decide, by decide, by decide +kernel⟩
abbrev rmX0_init : Room := { frames := 1, cells := 1, slots := 16, locals := 12 }
def poX0 (T : ClassId × ClassId × ClassId) (h0 : Nat) (w : va_W) : Prop := ∃ q : Nat, w = [(h0, .inr (0, [.ref q, .int 0])), (q, .inl (T.1, 16, .inl zf))]
set_option maxHeartbeats 4000000 in
set_option maxRecDepth 100000 in
theorem C_X0_init {D : va_G} {T : ClassId × ClassId × ClassId} {l : Launch} (h0 sz : Nat) : IM l yX0_init cX0_init 1 rmX0_init D T h0 (.inr (0, [.null, .int 0])) sz (poX0 T h0) 1 16 := by
  refine ofWalkI (by decide) rfl (Nat.le_of_ble_eq_true rfl) (fun p e s m below meth c ls A X w hl => ?_)
  obtain ⟨⟨⟨hx, hb, hml, hown, hts⟩, hk⟩, hr, hlk, hnm⟩ := id X
  refine lv_aload_n hx hb dX0_init_0 rfl (lv_at hl 0 rfl) ?_
  refine oi X.1 tw_ml_X0_3 hl.1 ⟨Nat.le_of_ble_eq_true rfl, Nat.le_of_ble_eq_true rfl⟩ dX0_init_1 ?_
  refine lv_aload_n hx hb dX0_init_4 rfl (lv_at hl 0 rfl) ?_
  refine lv_bipush (v := (nI 16)) hx hb dX0_init_5 (by decide) ?_
  refine nw_i X.1 w (by decide) (N := 16) (by decide) (Nat.le_of_ble_eq_true rfl) (Nat.le_of_ble_eq_true rfl) (Nat.le_of_ble_eq_true rfl) dX0_init_7 (fun q1 H w => ?_)
  have w : WW D A s _ _ ([(h0, .inr (0, [.null, .int 0])), (q1, .inl (T.1, 16, .inl zf))]) := w
  refine pf X (slot := 0) (ty := .array .int) w rfl inX0 tyX0 tyX0_ok nmX0 (by decide) tw_fl_X0_9 rfl rfl (by decide +kernel) rfl rfl (Nat.le_of_ble_eq_true rfl) dX0_init_9 (fun H locs w => ?_)
  have w : WW D A s _ _ ([(h0, .inr (0, [.ref q1, .int 0])), (q1, .inl (T.1, 16, .inl zf))]) := w
  refine W.widen (k := 1) (n := 16) (Nat.le_of_ble_eq_true rfl) (Nat.le_of_ble_eq_true rfl) ?_
  exact rt_I X w ⟨q1, rfl⟩ dX0_init_12
def ln0 : Nat → Int32 := (upd (upd (upd (upd (upd (upd (upd (upd zf ((nI 0) : Int32).toNatClampNeg (-nI 1000000)) ((nI 1) : Int32).toNatClampNeg (-nI 1000000)) ((nI 2) : Int32).toNatClampNeg (-nI 1000000)) ((nI 3) : Int32).toNatClampNeg (-nI 1000000)) ((nI 4) : Int32).toNatClampNeg (-nI 1000000)) ((nI 5) : Int32).toNatClampNeg (-nI 1000000)) ((nI 6) : Int32).toNatClampNeg (-nI 1000000)) ((nI 7) : Int32).toNatClampNeg (-nI 1000000))
def sz0 : Nat → Int32 := (upd (upd (upd (upd (upd (upd (upd (upd zf ((nI 0) : Int32).toNatClampNeg (-nI 1)) ((nI 1) : Int32).toNatClampNeg (-nI 1)) ((nI 2) : Int32).toNatClampNeg (-nI 1)) ((nI 3) : Int32).toNatClampNeg (-nI 1)) ((nI 4) : Int32).toNatClampNeg (-nI 1)) ((nI 5) : Int32).toNatClampNeg (-nI 1)) ((nI 6) : Int32).toNatClampNeg (-nI 1)) ((nI 7) : Int32).toNatClampNeg (-nI 1))
theorem if_X4 : IF yX4_init cX4_init 1 := ⟨tw_in_X4, tw_im_X4_init, tw_c_X4_init, rfl, by decide, by decide, by decide +kernel⟩
abbrev rmX4_init : Room := { frames := 1, cells := 3, slots := 336, locals := 12 }
def poX4 (T : ClassId × ClassId × ClassId) (h0 : Nat) (w : va_W) : Prop := ∃ q1 q2 q3 : Nat, w = [(h0, .inr (4, [.ref q1, .ref q2, .ref q3])), (q1, .inl (T.1, 8, .inl ln0)), (q2, .inl (T.1, 8, .inl zf)), (q3, .inl (T.1, 320, .inl zf))]
set_option maxHeartbeats 4000000 in
set_option maxRecDepth 100000 in
theorem C_X4_init {D : va_G} {T : ClassId × ClassId × ClassId} {l : Launch} (h0 sz : Nat) : IM l yX4_init cX4_init 1 rmX4_init D T h0 (.inr (4, [.null, .null, .null])) sz (poX4 T h0) 3 336 := by
  refine ofWalkI (by decide) rfl (Nat.le_of_ble_eq_true rfl) (fun p e s m below meth c ls A X w hl => ?_)
  obtain ⟨⟨⟨hx, hb, hml, hown, hts⟩, hk⟩, hr, hlk, hnm⟩ := id X
  refine lv_aload_n hx hb dX4_init_0 rfl (lv_at hl 0 rfl) ?_
  refine oi X.1 tw_ml_X4_3 hl.1 ⟨Nat.le_of_ble_eq_true rfl, Nat.le_of_ble_eq_true rfl⟩ dX4_init_1 ?_
  refine lv_aload_n hx hb dX4_init_4 rfl (lv_at hl 0 rfl) ?_
  refine lv_bipush (v := (nI 8)) hx hb dX4_init_5 (by decide) ?_
  refine nw_i X.1 w (by decide) (N := 8) (by decide) (Nat.le_of_ble_eq_true rfl) (Nat.le_of_ble_eq_true rfl) (Nat.le_of_ble_eq_true rfl) dX4_init_7 (fun q1 H w => ?_)
  have w : WW D A s _ _ ([(h0, .inr (4, [.null, .null, .null])), (q1, .inl (T.1, 8, .inl zf))]) := w
  refine lv_dup hx hb dX4_init_9 rfl ?_
  refine lv_iconst (v := (nI 0)) hx hb dX4_init_10 (by decide) ?_
  refine lv_ldc (v := (-nI 1000000)) hx hb hown (hts _ tw_k_X4_9) dX4_init_11 ?_
  refine sa X.1 w 1 rfl (vp_in_nI (by decide) (by decide)) dX4_init_13 (fun H locs w => ?_)
  have w : WW D A s _ _ ([(h0, .inr (4, [.null, .null, .null])), (q1, .inl (T.1, 8, .inl (upd zf ((nI 0) : Int32).toNatClampNeg (-nI 1000000))))]) := w
  refine lv_dup hx hb dX4_init_14 rfl ?_
  refine lv_iconst (v := (nI 1)) hx hb dX4_init_15 (by decide) ?_
  refine lv_ldc (v := (-nI 1000000)) hx hb hown (hts _ tw_k_X4_9) dX4_init_16 ?_
  refine sa X.1 w 1 rfl (vp_in_nI (by decide) (by decide)) dX4_init_18 (fun H locs w => ?_)
  have w : WW D A s _ _ ([(h0, .inr (4, [.null, .null, .null])), (q1, .inl (T.1, 8, .inl (upd (upd zf ((nI 0) : Int32).toNatClampNeg (-nI 1000000)) ((nI 1) : Int32).toNatClampNeg (-nI 1000000))))]) := w
  refine lv_dup hx hb dX4_init_19 rfl ?_
  refine lv_iconst (v := (nI 2)) hx hb dX4_init_20 (by decide) ?_
  refine lv_ldc (v := (-nI 1000000)) hx hb hown (hts _ tw_k_X4_9) dX4_init_21 ?_
  refine sa X.1 w 1 rfl (vp_in_nI (by decide) (by decide)) dX4_init_23 (fun H locs w => ?_)
  have w : WW D A s _ _ ([(h0, .inr (4, [.null, .null, .null])), (q1, .inl (T.1, 8, .inl (upd (upd (upd zf ((nI 0) : Int32).toNatClampNeg (-nI 1000000)) ((nI 1) : Int32).toNatClampNeg (-nI 1000000)) ((nI 2) : Int32).toNatClampNeg (-nI 1000000))))]) := w
  refine lv_dup hx hb dX4_init_24 rfl ?_
  refine lv_iconst (v := (nI 3)) hx hb dX4_init_25 (by decide) ?_
  refine lv_ldc (v := (-nI 1000000)) hx hb hown (hts _ tw_k_X4_9) dX4_init_26 ?_
  refine sa X.1 w 1 rfl (vp_in_nI (by decide) (by decide)) dX4_init_28 (fun H locs w => ?_)
  have w : WW D A s _ _ ([(h0, .inr (4, [.null, .null, .null])), (q1, .inl (T.1, 8, .inl (upd (upd (upd (upd zf ((nI 0) : Int32).toNatClampNeg (-nI 1000000)) ((nI 1) : Int32).toNatClampNeg (-nI 1000000)) ((nI 2) : Int32).toNatClampNeg (-nI 1000000)) ((nI 3) : Int32).toNatClampNeg (-nI 1000000))))]) := w
  refine lv_dup hx hb dX4_init_29 rfl ?_
  refine lv_iconst (v := (nI 4)) hx hb dX4_init_30 (by decide) ?_
  refine lv_ldc (v := (-nI 1000000)) hx hb hown (hts _ tw_k_X4_9) dX4_init_31 ?_
  refine sa X.1 w 1 rfl (vp_in_nI (by decide) (by decide)) dX4_init_33 (fun H locs w => ?_)
  have w : WW D A s _ _ ([(h0, .inr (4, [.null, .null, .null])), (q1, .inl (T.1, 8, .inl (upd (upd (upd (upd (upd zf ((nI 0) : Int32).toNatClampNeg (-nI 1000000)) ((nI 1) : Int32).toNatClampNeg (-nI 1000000)) ((nI 2) : Int32).toNatClampNeg (-nI 1000000)) ((nI 3) : Int32).toNatClampNeg (-nI 1000000)) ((nI 4) : Int32).toNatClampNeg (-nI 1000000))))]) := w
  refine lv_dup hx hb dX4_init_34 rfl ?_
  refine lv_iconst (v := (nI 5)) hx hb dX4_init_35 (by decide) ?_
  refine lv_ldc (v := (-nI 1000000)) hx hb hown (hts _ tw_k_X4_9) dX4_init_36 ?_
  refine sa X.1 w 1 rfl (vp_in_nI (by decide) (by decide)) dX4_init_38 (fun H locs w => ?_)
  have w : WW D A s _ _ ([(h0, .inr (4, [.null, .null, .null])), (q1, .inl (T.1, 8, .inl (upd (upd (upd (upd (upd (upd zf ((nI 0) : Int32).toNatClampNeg (-nI 1000000)) ((nI 1) : Int32).toNatClampNeg (-nI 1000000)) ((nI 2) : Int32).toNatClampNeg (-nI 1000000)) ((nI 3) : Int32).toNatClampNeg (-nI 1000000)) ((nI 4) : Int32).toNatClampNeg (-nI 1000000)) ((nI 5) : Int32).toNatClampNeg (-nI 1000000))))]) := w
  refine lv_dup hx hb dX4_init_39 rfl ?_
  refine lv_bipush (v := (nI 6)) hx hb dX4_init_40 (by decide) ?_
  refine lv_ldc (v := (-nI 1000000)) hx hb hown (hts _ tw_k_X4_9) dX4_init_42 ?_
  refine sa X.1 w 1 rfl (vp_in_nI (by decide) (by decide)) dX4_init_44 (fun H locs w => ?_)
  have w : WW D A s _ _ ([(h0, .inr (4, [.null, .null, .null])), (q1, .inl (T.1, 8, .inl (upd (upd (upd (upd (upd (upd (upd zf ((nI 0) : Int32).toNatClampNeg (-nI 1000000)) ((nI 1) : Int32).toNatClampNeg (-nI 1000000)) ((nI 2) : Int32).toNatClampNeg (-nI 1000000)) ((nI 3) : Int32).toNatClampNeg (-nI 1000000)) ((nI 4) : Int32).toNatClampNeg (-nI 1000000)) ((nI 5) : Int32).toNatClampNeg (-nI 1000000)) ((nI 6) : Int32).toNatClampNeg (-nI 1000000))))]) := w
  refine lv_dup hx hb dX4_init_45 rfl ?_
  refine lv_bipush (v := (nI 7)) hx hb dX4_init_46 (by decide) ?_
  refine lv_ldc (v := (-nI 1000000)) hx hb hown (hts _ tw_k_X4_9) dX4_init_48 ?_
  refine sa X.1 w 1 rfl (vp_in_nI (by decide) (by decide)) dX4_init_50 (fun H locs w => ?_)
  have w : WW D A s _ _ ([(h0, .inr (4, [.null, .null, .null])), (q1, .inl (T.1, 8, .inl (upd (upd (upd (upd (upd (upd (upd (upd zf ((nI 0) : Int32).toNatClampNeg (-nI 1000000)) ((nI 1) : Int32).toNatClampNeg (-nI 1000000)) ((nI 2) : Int32).toNatClampNeg (-nI 1000000)) ((nI 3) : Int32).toNatClampNeg (-nI 1000000)) ((nI 4) : Int32).toNatClampNeg (-nI 1000000)) ((nI 5) : Int32).toNatClampNeg (-nI 1000000)) ((nI 6) : Int32).toNatClampNeg (-nI 1000000)) ((nI 7) : Int32).toNatClampNeg (-nI 1000000))))]) := w
  refine pf X (slot := 0) (ty := .array .int) w rfl inX4 tyX4 tyX4_ok nmX4 (by decide) tw_fl_X4_10 rfl rfl (by decide +kernel) rfl rfl (Nat.le_of_ble_eq_true rfl) dX4_init_51 (fun H locs w => ?_)
  have w : WW D A s _ _ ([(h0, .inr (4, [.ref q1, .null, .null])), (q1, .inl (T.1, 8, .inl (upd (upd (upd (upd (upd (upd (upd (upd zf ((nI 0) : Int32).toNatClampNeg (-nI 1000000)) ((nI 1) : Int32).toNatClampNeg (-nI 1000000)) ((nI 2) : Int32).toNatClampNeg (-nI 1000000)) ((nI 3) : Int32).toNatClampNeg (-nI 1000000)) ((nI 4) : Int32).toNatClampNeg (-nI 1000000)) ((nI 5) : Int32).toNatClampNeg (-nI 1000000)) ((nI 6) : Int32).toNatClampNeg (-nI 1000000)) ((nI 7) : Int32).toNatClampNeg (-nI 1000000))))]) := w
  refine lv_aload_n hx hb dX4_init_54 rfl (lv_at hl 0 rfl) ?_
  refine lv_bipush (v := (nI 8)) hx hb dX4_init_55 (by decide) ?_
  refine nw_i X.1 w (by decide) (N := 8) (by decide) (Nat.le_of_ble_eq_true rfl) (Nat.le_of_ble_eq_true rfl) (Nat.le_of_ble_eq_true rfl) dX4_init_57 (fun q2 H w => ?_)
  have w : WW D A s _ _ ([(h0, .inr (4, [.ref q1, .null, .null])), (q1, .inl (T.1, 8, .inl (upd (upd (upd (upd (upd (upd (upd (upd zf ((nI 0) : Int32).toNatClampNeg (-nI 1000000)) ((nI 1) : Int32).toNatClampNeg (-nI 1000000)) ((nI 2) : Int32).toNatClampNeg (-nI 1000000)) ((nI 3) : Int32).toNatClampNeg (-nI 1000000)) ((nI 4) : Int32).toNatClampNeg (-nI 1000000)) ((nI 5) : Int32).toNatClampNeg (-nI 1000000)) ((nI 6) : Int32).toNatClampNeg (-nI 1000000)) ((nI 7) : Int32).toNatClampNeg (-nI 1000000)))), (q2, .inl (T.1, 8, .inl zf))]) := w
  refine pf X (slot := 1) (ty := .array .int) w rfl inX4 tyX4 tyX4_ok nmX4 (by decide) tw_fl_X4_16 rfl rfl (by decide +kernel) rfl rfl (Nat.le_of_ble_eq_true rfl) dX4_init_59 (fun H locs w => ?_)
  have w : WW D A s _ _ ([(h0, .inr (4, [.ref q1, .ref q2, .null])), (q1, .inl (T.1, 8, .inl (upd (upd (upd (upd (upd (upd (upd (upd zf ((nI 0) : Int32).toNatClampNeg (-nI 1000000)) ((nI 1) : Int32).toNatClampNeg (-nI 1000000)) ((nI 2) : Int32).toNatClampNeg (-nI 1000000)) ((nI 3) : Int32).toNatClampNeg (-nI 1000000)) ((nI 4) : Int32).toNatClampNeg (-nI 1000000)) ((nI 5) : Int32).toNatClampNeg (-nI 1000000)) ((nI 6) : Int32).toNatClampNeg (-nI 1000000)) ((nI 7) : Int32).toNatClampNeg (-nI 1000000)))), (q2, .inl (T.1, 8, .inl zf))]) := w
  refine lv_aload_n hx hb dX4_init_62 rfl (lv_at hl 0 rfl) ?_
  refine lv_sipush (v := (nI 320)) hx hb dX4_init_63 (by decide) ?_
  refine nw_i X.1 w (by decide) (N := 320) (by decide) (Nat.le_of_ble_eq_true rfl) (Nat.le_of_ble_eq_true rfl) (Nat.le_of_ble_eq_true rfl) dX4_init_66 (fun q3 H w => ?_)
  have w : WW D A s _ _ ([(h0, .inr (4, [.ref q1, .ref q2, .null])), (q1, .inl (T.1, 8, .inl (upd (upd (upd (upd (upd (upd (upd (upd zf ((nI 0) : Int32).toNatClampNeg (-nI 1000000)) ((nI 1) : Int32).toNatClampNeg (-nI 1000000)) ((nI 2) : Int32).toNatClampNeg (-nI 1000000)) ((nI 3) : Int32).toNatClampNeg (-nI 1000000)) ((nI 4) : Int32).toNatClampNeg (-nI 1000000)) ((nI 5) : Int32).toNatClampNeg (-nI 1000000)) ((nI 6) : Int32).toNatClampNeg (-nI 1000000)) ((nI 7) : Int32).toNatClampNeg (-nI 1000000)))), (q2, .inl (T.1, 8, .inl zf)), (q3, .inl (T.1, 320, .inl zf))]) := w
  refine pf X (slot := 2) (ty := .array .int) w rfl inX4 tyX4 tyX4_ok nmX4 (by decide) tw_fl_X4_19 rfl rfl (by decide +kernel) rfl rfl (Nat.le_of_ble_eq_true rfl) dX4_init_68 (fun H locs w => ?_)
  have w : WW D A s _ _ ([(h0, .inr (4, [.ref q1, .ref q2, .ref q3])), (q1, .inl (T.1, 8, .inl (upd (upd (upd (upd (upd (upd (upd (upd zf ((nI 0) : Int32).toNatClampNeg (-nI 1000000)) ((nI 1) : Int32).toNatClampNeg (-nI 1000000)) ((nI 2) : Int32).toNatClampNeg (-nI 1000000)) ((nI 3) : Int32).toNatClampNeg (-nI 1000000)) ((nI 4) : Int32).toNatClampNeg (-nI 1000000)) ((nI 5) : Int32).toNatClampNeg (-nI 1000000)) ((nI 6) : Int32).toNatClampNeg (-nI 1000000)) ((nI 7) : Int32).toNatClampNeg (-nI 1000000)))), (q2, .inl (T.1, 8, .inl zf)), (q3, .inl (T.1, 320, .inl zf))]) := w
  refine W.widen (k := 3) (n := 336) (Nat.le_of_ble_eq_true rfl) (Nat.le_of_ble_eq_true rfl) ?_
  exact rt_I X w ⟨q1, q2, q3, rfl⟩ dX4_init_71
theorem if_X6 : IF yX6_init cX6_init 1 := ⟨tw_in_X6, tw_im_X6_init, tw_c_X6_init, rfl, by decide, by decide, by decide +kernel⟩
abbrev rmX6_init : Room := { frames := 2, cells := 9, slots := 171, locals := 32 }
def poX6 (T : ClassId × ClassId × ClassId) (h0 : Nat) (w : va_W) : Prop := ∃ (q : Nat) (h : Nat → Nat), w = (h0, .inr (6, [.ref q, .ref (h 0), .int 0, .int 0, .int 0, .int 0])) :: ([(q, .inl (T.1, 120, .inl zf))] ++ bk8 T h)
set_option maxHeartbeats 4000000 in
set_option maxRecDepth 100000 in
theorem C_X6_init {D : va_G} {T : ClassId × ClassId × ClassId} {l : Launch} (h0 sz : Nat) : IM l yX6_init cX6_init 1 rmX6_init D T h0 (.inr (6, [.null, .null, .int 0, .int 0, .int 0, .int 0])) sz (poX6 T h0) 9 171 := by
  refine ofWalkI (by decide) rfl (Nat.le_of_ble_eq_true rfl) (fun p e s m below meth c ls A X w hl => ?_)
  obtain ⟨⟨⟨hx, hb, hml, hown, hts⟩, hk⟩, hr, hlk, hnm⟩ := id X
  refine lv_aload_n hx hb dX6_init_0 rfl (lv_at hl 0 rfl) ?_
  refine oi X.1 tw_ml_X6_3 hl.1 ⟨Nat.le_of_ble_eq_true rfl, Nat.le_of_ble_eq_true rfl⟩ dX6_init_1 ?_
  refine lv_aload_n hx hb dX6_init_4 rfl (lv_at hl 0 rfl) ?_
  refine lv_bipush (v := (nI 120)) hx hb dX6_init_5 (by decide) ?_
  refine nw_i X.1 w (by decide) (N := 120) (by decide) (Nat.le_of_ble_eq_true rfl) (Nat.le_of_ble_eq_true rfl) (Nat.le_of_ble_eq_true rfl) dX6_init_7 (fun q1 H w => ?_)
  have w : WW D A s _ _ ([(h0, .inr (6, [.null, .null, .int 0, .int 0, .int 0, .int 0])), (q1, .inl (T.1, 120, .inl zf))]) := w
  refine pf X (slot := 0) (ty := .array .int) w rfl inX6 tyX6 tyX6_ok nmX6 (by decide) tw_fl_X6_9 rfl rfl (by decide +kernel) rfl rfl (Nat.le_of_ble_eq_true rfl) dX6_init_9 (fun H locs w => ?_)
  have w : WW D A s _ _ ([(h0, .inr (6, [.ref q1, .null, .int 0, .int 0, .int 0, .int 0])), (q1, .inl (T.1, 120, .inl zf))]) := w
  refine lv_aload_n hx hb dX6_init_12 rfl (lv_at hl 0 rfl) ?_
  refine nw_o X.1 w (ci := 1) (fs := [.int 0, .int 0, .int 0, .int 0, .int 0, .int 0, .int 0, .int 0, .int 0, .int 0, .null, .null, .null, .null, .null, .null, .null]) inX1 tyX1 tyX1_ok tw_cl_X6_15 tw_ib_X1 tw_in_X1 rfl (by intro j hj; rcases (show j = 0 ∨ j = 1 ∨ j = 2 ∨ j = 3 ∨ j = 4 ∨ j = 5 ∨ j = 6 ∨ j = 7 ∨ j = 8 ∨ j = 9 ∨ j = 10 ∨ j = 11 ∨ j = 12 ∨ j = 13 ∨ j = 14 ∨ j = 15 ∨ j = 16 by omega) with rfl | rfl | rfl | rfl | rfl | rfl | rfl | rfl | rfl | rfl | rfl | rfl | rfl | rfl | rfl | rfl | rfl <;> rfl) (Nat.le_of_ble_eq_true rfl) (Nat.le_of_ble_eq_true rfl) dX6_init_13 (fun q2 H w => ?_)
  refine lv_dup hx hb dX6_init_16 rfl ?_
  refine kIN X.1 w (C_X1_init _ _) (List.mem_of_getElem? (i := 2) rfl) if_X1 ⟨rfl, rfl, Nat.le_of_ble_eq_true rfl, Nat.le_of_ble_eq_true rfl⟩ hl.1 (Nat.le_of_ble_eq_true rfl) ⟨Nat.le_of_ble_eq_true rfl, Nat.le_of_ble_eq_true rfl⟩ dX6_init_17 (fun v3 H locs pv3 w => ?_)
  have w : WW D A s _ _ ((h0, .inr (6, [.ref q1, .null, .int 0, .int 0, .int 0, .int 0])) :: ([(q1, .inl (T.1, 120, .inl zf))] ++ v3)) := w
  refine pf X (slot := 1) (ty := .object "TellerDays$Bank") w rfl inX6 tyX6 tyX6_ok nmX6 (by decide) tw_fl_X6_18 rfl rfl (by decide +kernel) rfl rfl (Nat.le_of_ble_eq_true rfl) dX6_init_20 (fun H locs w => ?_)
  have w : WW D A s _ _ ((h0, .inr (6, [.ref q1, .ref q2, .int 0, .int 0, .int 0, .int 0])) :: ([(q1, .inl (T.1, 120, .inl zf))] ++ v3)) := w
  refine W.widen (k := 9) (n := 171) (Nat.le_of_ble_eq_true rfl) (Nat.le_of_ble_eq_true rfl) ?_
  exact rt_I X w (by obtain ⟨h, e1, e2⟩ := pv3; rw [e2, ← e1]; exact ⟨q1, h, rfl⟩) dX6_init_23
theorem if_X2 : IF yX2_init cX2_init 1 := ⟨tw_in_X2, tw_im_X2_init, tw_c_X2_init, rfl, by decide, by decide, by decide +kernel⟩
abbrev rmX2_init : Room := { frames := 2, cells := 9, slots := 63, locals := 32 }
def poX2 (T : ClassId × ClassId × ClassId) (h0 : Nat) (w : va_W) : Prop := ∃ (q : Nat) (h : Nat → Nat), w = (h0, .inr (2, [.ref (h 0), .ref q, .int 0, .int 0])) :: (bk8 T h ++ [(q, .inl (T.1, 12, .inl zf))])
set_option maxHeartbeats 4000000 in
set_option maxRecDepth 100000 in
theorem C_X2_init {D : va_G} {T : ClassId × ClassId × ClassId} {l : Launch} (h0 sz : Nat) : IM l yX2_init cX2_init 1 rmX2_init D T h0 (.inr (2, [.null, .null, .int 0, .int 0])) sz (poX2 T h0) 9 63 := by
  refine ofWalkI (by decide) rfl (Nat.le_of_ble_eq_true rfl) (fun p e s m below meth c ls A X w hl => ?_)
  obtain ⟨⟨⟨hx, hb, hml, hown, hts⟩, hk⟩, hr, hlk, hnm⟩ := id X
  refine lv_aload_n hx hb dX2_init_0 rfl (lv_at hl 0 rfl) ?_
  refine oi X.1 tw_ml_X2_3 hl.1 ⟨Nat.le_of_ble_eq_true rfl, Nat.le_of_ble_eq_true rfl⟩ dX2_init_1 ?_
  refine lv_aload_n hx hb dX2_init_4 rfl (lv_at hl 0 rfl) ?_
  refine nw_o X.1 w (ci := 1) (fs := [.int 0, .int 0, .int 0, .int 0, .int 0, .int 0, .int 0, .int 0, .int 0, .int 0, .null, .null, .null, .null, .null, .null, .null]) inX1 tyX1 tyX1_ok tw_cl_X2_9 tw_ib_X1 tw_in_X1 rfl (by intro j hj; rcases (show j = 0 ∨ j = 1 ∨ j = 2 ∨ j = 3 ∨ j = 4 ∨ j = 5 ∨ j = 6 ∨ j = 7 ∨ j = 8 ∨ j = 9 ∨ j = 10 ∨ j = 11 ∨ j = 12 ∨ j = 13 ∨ j = 14 ∨ j = 15 ∨ j = 16 by omega) with rfl | rfl | rfl | rfl | rfl | rfl | rfl | rfl | rfl | rfl | rfl | rfl | rfl | rfl | rfl | rfl | rfl <;> rfl) (Nat.le_of_ble_eq_true rfl) (Nat.le_of_ble_eq_true rfl) dX2_init_5 (fun q1 H w => ?_)
  refine lv_dup hx hb dX2_init_8 rfl ?_
  refine kIN X.1 w (C_X1_init _ _) (List.mem_of_getElem? (i := 6) rfl) if_X1 ⟨rfl, rfl, Nat.le_of_ble_eq_true rfl, Nat.le_of_ble_eq_true rfl⟩ hl.1 (Nat.le_of_ble_eq_true rfl) ⟨Nat.le_of_ble_eq_true rfl, Nat.le_of_ble_eq_true rfl⟩ dX2_init_9 (fun v2 H locs pv2 w => ?_)
  have w : WW D A s _ _ ((h0, .inr (2, [.null, .null, .int 0, .int 0])) :: v2) := w
  refine pf X (slot := 0) (ty := .object "TellerDays$Bank") w rfl inX2 tyX2 tyX2_ok nmX2 (by decide) tw_fl_X2_12 rfl rfl (by decide +kernel) rfl rfl (Nat.le_of_ble_eq_true rfl) dX2_init_12 (fun H locs w => ?_)
  have w : WW D A s _ _ ((h0, .inr (2, [.ref q1, .null, .int 0, .int 0])) :: v2) := w
  refine lv_aload_n hx hb dX2_init_15 rfl (lv_at hl 0 rfl) ?_
  refine lv_bipush (v := (nI 12)) hx hb dX2_init_16 (by decide) ?_
  refine nw_i X.1 w (by decide) (N := 12) (by decide) (Nat.le_of_ble_eq_true rfl) (Nat.le_of_ble_eq_true rfl) (Nat.le_of_ble_eq_true rfl) dX2_init_18 (fun q3 H w => ?_)
  have w : WW D A s _ _ ((h0, .inr (2, [.ref q1, .null, .int 0, .int 0])) :: (v2 ++ [(q3, .inl (T.1, 12, .inl zf))])) := w
  refine pf X (slot := 1) (ty := .array .int) w rfl inX2 tyX2 tyX2_ok nmX2 (by decide) tw_fl_X2_18 rfl rfl (by decide +kernel) rfl rfl (Nat.le_of_ble_eq_true rfl) dX2_init_20 (fun H locs w => ?_)
  have w : WW D A s _ _ ((h0, .inr (2, [.ref q1, .ref q3, .int 0, .int 0])) :: (v2 ++ [(q3, .inl (T.1, 12, .inl zf))])) := w
  refine W.widen (k := 9) (n := 63) (Nat.le_of_ble_eq_true rfl) (Nat.le_of_ble_eq_true rfl) ?_
  exact rt_I X w (by obtain ⟨h, e1, e2⟩ := pv2; rw [e2, ← e1]; exact ⟨q3, h, rfl⟩) dX2_init_23
theorem if_X3 : IF yX3_init cX3_init 2 := ⟨tw_in_X3, tw_im_X3_init, tw_c_X3_init, rfl, by decide, by decide, by decide +kernel⟩
abbrev rmX3_init : Room := { frames := 2, cells := 193, slots := 1248, locals := 32 }
def poX3 (T : ClassId × ClassId × ClassId) (h0 : Nat) (w : va_W) : Prop := ∃ (q : Nat) (hb : Nat → Nat → Nat), w = [(h0, .inr (3, [.ref q, .int 0, .int 0]))] ++ (q, .inl (T.2.2, 24, .inr (.inr (.inr (.inr (rfs hb 24)))))) :: ([] ++ bks T hb 24)
set_option maxHeartbeats 4000000 in
set_option maxRecDepth 100000 in
theorem lp_X3 {D : va_G} {T : ClassId × ClassId × ClassId} {p : Program} {l : Launch} {e : Env} {s : State} {m : MethodId} {args : Array Value} {below : List Frame} {meth : Method} {c : Code} {A : Nat → Prop} {h0 q1 : Nat} (X : CI D T p s m args meth c cX3_init 2 RX3) : ∀ (d n : Nat), n + d = 24 → ∀ (hb : Nat → Nat → Nat) (H : Heap) (locs : List Loc) (ls : Array Slot), WW D A s H locs ([(h0, .inr (3, [.ref q1, .int 0, .int 0]))] ++ (q1, .inl (T.2.2, 24, .inr (.inr (.inr (.inr (rfs hb n)))))) :: ([] ++ bks T hb n)) → lv_has ls 2 [(1, .int (nI n)), (0, .ref h0)] → W p l e rmX3_init s m args below meth c H locs (1 + 8 * n) (24 + 51 * n) (MQ below (va_Qv (poX3 T h0) (IB D A) A) args s 193 1248 A) (F0 m 15 ls []) := by
  obtain ⟨⟨⟨hx, hb9, hml, hown, hts⟩, hk⟩, hr, hlk, hnm⟩ := id X
  intro d
  induction d with
  | zero =>
    intro n hn hb H locs ls w hl
    have e : n = 24 := by omega
    subst e
    refine lv_iload_n hx hb9 dX3_init_15 rfl (lv_at hl 0 rfl) ?_
    refine lv_bipush (v := (nI 24)) hx hb9 dX3_init_16 (by decide) ?_
    refine lv_icmp_ge (tgt := 40) hx hb9 dX3_init_18 (by decide) (fun _ => ?_) (fun q => absurd (by decide) q)
    exact rt_I X w ⟨q1, hb, rfl⟩ dX3_init_40
  | succ d ih =>
    intro n hn hb H locs ls w hl
    refine lv_iload_n hx hb9 dX3_init_15 rfl (lv_at hl 0 rfl) ?_
    refine lv_bipush (v := (nI 24)) hx hb9 dX3_init_16 (by decide) ?_
    refine lv_icmp_ge (tgt := 40) hx hb9 dX3_init_18 (by decide) (fun q => absurd q (by rw [nIle (by omega) (by omega)]; omega)) (fun _ => ?_)
    refine lv_aload_n hx hb9 dX3_init_21 rfl (lv_at hl 1 rfl) ?_
    refine gf X.1 (slot := 0) w rfl inX3 (by decide) tw_fl_X3_11 rfl dX3_init_22 ?_
    refine lv_iload_n hx hb9 dX3_init_25 rfl (lv_at hl 0 rfl) ?_
    refine nw_o X.1 w (ci := 1) (fs := [.int 0, .int 0, .int 0, .int 0, .int 0, .int 0, .int 0, .int 0, .int 0, .int 0, .null, .null, .null, .null, .null, .null, .null]) inX1 tyX1 tyX1_ok tw_cl_X3_9 tw_ib_X1 tw_in_X1 rfl (by intro j hj; rcases (show j = 0 ∨ j = 1 ∨ j = 2 ∨ j = 3 ∨ j = 4 ∨ j = 5 ∨ j = 6 ∨ j = 7 ∨ j = 8 ∨ j = 9 ∨ j = 10 ∨ j = 11 ∨ j = 12 ∨ j = 13 ∨ j = 14 ∨ j = 15 ∨ j = 16 by omega) with rfl | rfl | rfl | rfl | rfl | rfl | rfl | rfl | rfl | rfl | rfl | rfl | rfl | rfl | rfl | rfl | rfl <;> rfl) (show _ ≤ 193 by omega) (show _ ≤ 1248 by omega) dX3_init_26 (fun q H w => ?_)
    refine lv_dup hx hb9 dX3_init_29 rfl ?_
    refine kIN X.1 w (C_X1_init _ _) (List.mem_of_getElem? (i := 4) rfl) if_X1 ⟨rfl, rfl, Nat.le_of_ble_eq_true rfl, Nat.le_of_ble_eq_true rfl⟩ hl.1 (Nat.le_of_ble_eq_true rfl) ⟨show _ ≤ 193 by omega, show _ ≤ 1248 by omega⟩ dX3_init_30 (fun v H locs pv w => ?_)
    obtain ⟨h, e1, e2⟩ := pv
    have ev : [] ++ bks T hb n ++ v = [] ++ bks T (va_up hb n h) (n + 1) := by rw [e2, List.append_assoc, bks_up]
    have w : WW D A s H locs ([(h0, .inr (3, [.ref q1, .int 0, .int 0]))] ++ (q1, .inl (T.2.2, 24, .inr (.inr (.inr (.inr (rfs hb n)))))) :: ([] ++ bks T (va_up hb n h) (n + 1))) := by
      have w1 : WW D A s H locs ([(h0, .inr (3, [.ref q1, .int 0, .int 0]))] ++ (q1, .inl (T.2.2, 24, .inr (.inr (.inr (.inr (rfs hb n)))))) :: ([] ++ bks T hb n ++ v)) := w
      rw [ev] at w1; exact w1
    refine sq X.1 w (v := q) (vs := [.int 0, .int 0, .int 0, .int 0, .int 0, .int 0, .int 0, .int 0, .int 0, .int 0, .ref (h 1), .ref (h 2), .ref (h 3), .ref (h 4), .ref (h 5), .ref (h 6), .ref (h 7)]) (by rw [bks, va_up_self]; refine List.mem_append_right _ (List.mem_append_right _ ?_); rw [← e1]; exact List.mem_cons_self) (show vp_in (nI n) 24 by rw [nIvp (by omega) (by omega)]; omega) dX3_init_33 (fun H locs w => ?_)
    rw [nIcl (by omega), rfs_up e1] at w
    refine lv_iinc (v := nI (n + 1)) (lv' := [(1, .int (nI (n + 1))), (0, .ref h0)]) hx hb9 dX3_init_34 hl (k := 0) rfl (by rw [← nI_add]; rfl) (by decide) rfl (fun ls hl => ?_)
    refine lv_goto (tgt := 15) hx hb9 dX3_init_37 (by decide) ?_
    refine W.widen (k := 1 + 8 * (n + 1)) (n := 24 + 51 * (n + 1)) (by omega) (by omega) ?_
    exact ih (n + 1) (by omega) _ _ _ _ w hl
set_option maxHeartbeats 4000000 in
set_option maxRecDepth 100000 in
theorem C_X3_init {D : va_G} {T : ClassId × ClassId × ClassId} {l : Launch} (h0 sz : Nat) : IM l yX3_init cX3_init 2 rmX3_init D T h0 (.inr (3, [.null, .int 0, .int 0])) sz (poX3 T h0) 193 1248 := by
  refine ofWalkI (by decide) rfl (Nat.le_of_ble_eq_true rfl) (fun p e s m below meth c ls A X w hl => ?_)
  obtain ⟨⟨⟨hx, hb, hml, hown, hts⟩, hk⟩, hr, hlk, hnm⟩ := id X
  refine lv_aload_n hx hb dX3_init_0 rfl (lv_at hl 0 rfl) ?_
  refine oi X.1 tw_ml_X3_3 hl.1 ⟨Nat.le_of_ble_eq_true rfl, Nat.le_of_ble_eq_true rfl⟩ dX3_init_1 ?_
  refine lv_aload_n hx hb dX3_init_4 rfl (lv_at hl 0 rfl) ?_
  refine lv_bipush (v := (nI 24)) hx hb dX3_init_5 (by decide) ?_
  refine nw_q X.1 w tw_cl_X3_9 (by decide) (N := 24) (by decide) (Nat.le_of_ble_eq_true rfl) (Nat.le_of_ble_eq_true rfl) (Nat.le_of_ble_eq_true rfl) dX3_init_7 (fun q1 H w => ?_)
  have w : WW D A s _ _ ([(h0, .inr (3, [.null, .int 0, .int 0])), (q1, .inl (T.2.2, 24, .inr (.inr (.inr (.inr (fun _ => none))))))]) := w
  refine pf X (slot := 0) (ty := .array (.object "TellerDays$Bank")) w rfl inX3 tyX3 tyX3_ok nmX3 (by decide) tw_fl_X3_11 rfl rfl (by decide +kernel) rfl rfl (Nat.le_of_ble_eq_true rfl) dX3_init_10 (fun H locs w => ?_)
  have w : WW D A s _ _ ([(h0, .inr (3, [.ref q1, .int 0, .int 0])), (q1, .inl (T.2.2, 24, .inr (.inr (.inr (.inr (fun _ => none))))))]) := w
  refine lv_iconst (v := (nI 0)) hx hb dX3_init_13 (by decide) ?_
  refine lv_istore_n (lv' := [(1, .int (nI 0)), (0, .ref h0)]) hx hb dX3_init_14 rfl hl (by decide) rfl (fun ls hl => ?_)
  have w : WW D A s _ _ ([(h0, .inr (3, [.ref q1, .int 0, .int 0]))] ++ (q1, .inl (T.2.2, 24, .inr (.inr (.inr (.inr (fun _ => none)))))) :: ([] ++ bks T (fun _ _ => 0) 0)) := w
  rw [rfs_0 (fun _ _ => 0)] at w
  exact lp_X3 X 24 0 (by omega) _ _ _ _ w hl
theorem if_X5 : IF yX5_init cX5_init 2 := ⟨tw_in_X5, tw_im_X5_init, tw_c_X5_init, rfl, by decide, by decide, by decide +kernel⟩
abbrev rmX5_init : Room := { frames := 2, cells := 68, slots := 437, locals := 32 }
def poX5 (T : ClassId × ClassId × ClassId) (h0 : Nat) (w : va_W) : Prop := ∃ (q1 q2 q3 q4 : Nat) (hb : Nat → Nat → Nat), w = [(h0, .inr (5, [.ref q1, .ref q2, .ref q3, .ref q4, .int 0, .int 0, .int 0, .int 0, .int 0, .int 0, .int 0]))] ++ (q1, .inl (T.2.2, 8, .inr (.inr (.inr (.inr (rfs hb 8)))))) :: ([(q2, .inl (T.1, 7, .inl zf)), (q3, .inl (T.1, 7, .inl zf)), (q4, .inl (T.1, 7, .inl zf))] ++ bks T hb 8)
set_option maxHeartbeats 4000000 in
set_option maxRecDepth 100000 in
theorem lp_X5 {D : va_G} {T : ClassId × ClassId × ClassId} {p : Program} {l : Launch} {e : Env} {s : State} {m : MethodId} {args : Array Value} {below : List Frame} {meth : Method} {c : Code} {A : Nat → Prop} {h0 q1 q2 q3 q4 : Nat} (X : CI D T p s m args meth c cX5_init 2 RX5) : ∀ (d n : Nat), n + d = 8 → ∀ (hb : Nat → Nat → Nat) (H : Heap) (locs : List Loc) (ls : Array Slot), WW D A s H locs ([(h0, .inr (5, [.ref q1, .ref q2, .ref q3, .ref q4, .int 0, .int 0, .int 0, .int 0, .int 0, .int 0, .int 0]))] ++ (q1, .inl (T.2.2, 8, .inr (.inr (.inr (.inr (rfs hb n)))))) :: ([(q2, .inl (T.1, 7, .inl zf)), (q3, .inl (T.1, 7, .inl zf)), (q4, .inl (T.1, 7, .inl zf))] ++ bks T hb n)) → lv_has ls 2 [(1, .int (nI n)), (0, .ref h0)] → W p l e rmX5_init s m args below meth c H locs (4 + 8 * n) (29 + 51 * n) (MQ below (va_Qv (poX5 T h0) (IB D A) A) args s 68 437 A) (F0 m 39 ls []) := by
  obtain ⟨⟨⟨hx, hb9, hml, hown, hts⟩, hk⟩, hr, hlk, hnm⟩ := id X
  intro d
  induction d with
  | zero =>
    intro n hn hb H locs ls w hl
    have e : n = 8 := by omega
    subst e
    refine lv_iload_n hx hb9 dX5_init_39 rfl (lv_at hl 0 rfl) ?_
    refine lv_bipush (v := (nI 7)) hx hb9 dX5_init_40 (by decide) ?_
    refine lv_icmp_gt (tgt := 64) hx hb9 dX5_init_42 (by decide) (fun _ => ?_) (fun q => absurd (by decide) q)
    exact rt_I X w ⟨q1, q2, q3, q4, hb, rfl⟩ dX5_init_64
  | succ d ih =>
    intro n hn hb H locs ls w hl
    refine lv_iload_n hx hb9 dX5_init_39 rfl (lv_at hl 0 rfl) ?_
    refine lv_bipush (v := (nI 7)) hx hb9 dX5_init_40 (by decide) ?_
    refine lv_icmp_gt (tgt := 64) hx hb9 dX5_init_42 (by decide) (fun q => absurd q (by rw [nIlt (by omega) (by omega)]; omega)) (fun _ => ?_)
    refine lv_aload_n hx hb9 dX5_init_45 rfl (lv_at hl 1 rfl) ?_
    refine gf X.1 (slot := 0) w rfl inX5 (by decide) tw_fl_X5_11 rfl dX5_init_46 ?_
    refine lv_iload_n hx hb9 dX5_init_49 rfl (lv_at hl 0 rfl) ?_
    refine nw_o X.1 w (ci := 1) (fs := [.int 0, .int 0, .int 0, .int 0, .int 0, .int 0, .int 0, .int 0, .int 0, .int 0, .null, .null, .null, .null, .null, .null, .null]) inX1 tyX1 tyX1_ok tw_cl_X5_9 tw_ib_X1 tw_in_X1 rfl (by intro j hj; rcases (show j = 0 ∨ j = 1 ∨ j = 2 ∨ j = 3 ∨ j = 4 ∨ j = 5 ∨ j = 6 ∨ j = 7 ∨ j = 8 ∨ j = 9 ∨ j = 10 ∨ j = 11 ∨ j = 12 ∨ j = 13 ∨ j = 14 ∨ j = 15 ∨ j = 16 by omega) with rfl | rfl | rfl | rfl | rfl | rfl | rfl | rfl | rfl | rfl | rfl | rfl | rfl | rfl | rfl | rfl | rfl <;> rfl) (show _ ≤ 68 by omega) (show _ ≤ 437 by omega) dX5_init_50 (fun q H w => ?_)
    refine lv_dup hx hb9 dX5_init_53 rfl ?_
    refine kIN X.1 w (C_X1_init _ _) (List.mem_of_getElem? (i := 7) rfl) if_X1 ⟨rfl, rfl, Nat.le_of_ble_eq_true rfl, Nat.le_of_ble_eq_true rfl⟩ hl.1 (Nat.le_of_ble_eq_true rfl) ⟨show _ ≤ 68 by omega, show _ ≤ 437 by omega⟩ dX5_init_54 (fun v H locs pv w => ?_)
    obtain ⟨h, e1, e2⟩ := pv
    have ev : [(q2, .inl (T.1, 7, .inl zf)), (q3, .inl (T.1, 7, .inl zf)), (q4, .inl (T.1, 7, .inl zf))] ++ bks T hb n ++ v = [(q2, .inl (T.1, 7, .inl zf)), (q3, .inl (T.1, 7, .inl zf)), (q4, .inl (T.1, 7, .inl zf))] ++ bks T (va_up hb n h) (n + 1) := by rw [e2, List.append_assoc, bks_up]
    have w : WW D A s H locs ([(h0, .inr (5, [.ref q1, .ref q2, .ref q3, .ref q4, .int 0, .int 0, .int 0, .int 0, .int 0, .int 0, .int 0]))] ++ (q1, .inl (T.2.2, 8, .inr (.inr (.inr (.inr (rfs hb n)))))) :: ([(q2, .inl (T.1, 7, .inl zf)), (q3, .inl (T.1, 7, .inl zf)), (q4, .inl (T.1, 7, .inl zf))] ++ bks T (va_up hb n h) (n + 1))) := by
      have w1 : WW D A s H locs ([(h0, .inr (5, [.ref q1, .ref q2, .ref q3, .ref q4, .int 0, .int 0, .int 0, .int 0, .int 0, .int 0, .int 0]))] ++ (q1, .inl (T.2.2, 8, .inr (.inr (.inr (.inr (rfs hb n)))))) :: ([(q2, .inl (T.1, 7, .inl zf)), (q3, .inl (T.1, 7, .inl zf)), (q4, .inl (T.1, 7, .inl zf))] ++ bks T hb n ++ v)) := w
      rw [ev] at w1; exact w1
    refine sq X.1 w (v := q) (vs := [.int 0, .int 0, .int 0, .int 0, .int 0, .int 0, .int 0, .int 0, .int 0, .int 0, .ref (h 1), .ref (h 2), .ref (h 3), .ref (h 4), .ref (h 5), .ref (h 6), .ref (h 7)]) (by rw [bks, va_up_self]; refine List.mem_append_right _ (List.mem_append_right _ ?_); rw [← e1]; exact List.mem_cons_self) (show vp_in (nI n) 8 by rw [nIvp (by omega) (by omega)]; omega) dX5_init_57 (fun H locs w => ?_)
    rw [nIcl (by omega), rfs_up e1] at w
    refine lv_iinc (v := nI (n + 1)) (lv' := [(1, .int (nI (n + 1))), (0, .ref h0)]) hx hb9 dX5_init_58 hl (k := 0) rfl (by rw [← nI_add]; rfl) (by decide) rfl (fun ls hl => ?_)
    refine lv_goto (tgt := 39) hx hb9 dX5_init_61 (by decide) ?_
    refine W.widen (k := 4 + 8 * (n + 1)) (n := 29 + 51 * (n + 1)) (by omega) (by omega) ?_
    exact ih (n + 1) (by omega) _ _ _ _ w hl
set_option maxHeartbeats 4000000 in
set_option maxRecDepth 100000 in
theorem C_X5_init {D : va_G} {T : ClassId × ClassId × ClassId} {l : Launch} (h0 sz : Nat) : IM l yX5_init cX5_init 2 rmX5_init D T h0 (.inr (5, [.null, .null, .null, .null, .int 0, .int 0, .int 0, .int 0, .int 0, .int 0, .int 0])) sz (poX5 T h0) 68 437 := by
  refine ofWalkI (by decide) rfl (Nat.le_of_ble_eq_true rfl) (fun p e s m below meth c ls A X w hl => ?_)
  obtain ⟨⟨⟨hx, hb, hml, hown, hts⟩, hk⟩, hr, hlk, hnm⟩ := id X
  refine lv_aload_n hx hb dX5_init_0 rfl (lv_at hl 0 rfl) ?_
  refine oi X.1 tw_ml_X5_3 hl.1 ⟨Nat.le_of_ble_eq_true rfl, Nat.le_of_ble_eq_true rfl⟩ dX5_init_1 ?_
  refine lv_aload_n hx hb dX5_init_4 rfl (lv_at hl 0 rfl) ?_
  refine lv_bipush (v := (nI 8)) hx hb dX5_init_5 (by decide) ?_
  refine nw_q X.1 w tw_cl_X5_9 (by decide) (N := 8) (by decide) (Nat.le_of_ble_eq_true rfl) (Nat.le_of_ble_eq_true rfl) (Nat.le_of_ble_eq_true rfl) dX5_init_7 (fun q1 H w => ?_)
  have w : WW D A s _ _ ([(h0, .inr (5, [.null, .null, .null, .null, .int 0, .int 0, .int 0, .int 0, .int 0, .int 0, .int 0])), (q1, .inl (T.2.2, 8, .inr (.inr (.inr (.inr (fun _ => none))))))]) := w
  refine pf X (slot := 0) (ty := .array (.object "TellerDays$Bank")) w rfl inX5 tyX5 tyX5_ok nmX5 (by decide) tw_fl_X5_11 rfl rfl (by decide +kernel) rfl rfl (Nat.le_of_ble_eq_true rfl) dX5_init_10 (fun H locs w => ?_)
  have w : WW D A s _ _ ([(h0, .inr (5, [.ref q1, .null, .null, .null, .int 0, .int 0, .int 0, .int 0, .int 0, .int 0, .int 0])), (q1, .inl (T.2.2, 8, .inr (.inr (.inr (.inr (fun _ => none))))))]) := w
  refine lv_aload_n hx hb dX5_init_13 rfl (lv_at hl 0 rfl) ?_
  refine lv_bipush (v := (nI 7)) hx hb dX5_init_14 (by decide) ?_
  refine nw_i X.1 w (by decide) (N := 7) (by decide) (Nat.le_of_ble_eq_true rfl) (Nat.le_of_ble_eq_true rfl) (Nat.le_of_ble_eq_true rfl) dX5_init_16 (fun q2 H w => ?_)
  have w : WW D A s _ _ ([(h0, .inr (5, [.ref q1, .null, .null, .null, .int 0, .int 0, .int 0, .int 0, .int 0, .int 0, .int 0])), (q1, .inl (T.2.2, 8, .inr (.inr (.inr (.inr (fun _ => none)))))), (q2, .inl (T.1, 7, .inl zf))]) := w
  refine pf X (slot := 1) (ty := .array .int) w rfl inX5 tyX5 tyX5_ok nmX5 (by decide) tw_fl_X5_17 rfl rfl (by decide +kernel) rfl rfl (Nat.le_of_ble_eq_true rfl) dX5_init_18 (fun H locs w => ?_)
  have w : WW D A s _ _ ([(h0, .inr (5, [.ref q1, .ref q2, .null, .null, .int 0, .int 0, .int 0, .int 0, .int 0, .int 0, .int 0])), (q1, .inl (T.2.2, 8, .inr (.inr (.inr (.inr (fun _ => none)))))), (q2, .inl (T.1, 7, .inl zf))]) := w
  refine lv_aload_n hx hb dX5_init_21 rfl (lv_at hl 0 rfl) ?_
  refine lv_bipush (v := (nI 7)) hx hb dX5_init_22 (by decide) ?_
  refine nw_i X.1 w (by decide) (N := 7) (by decide) (Nat.le_of_ble_eq_true rfl) (Nat.le_of_ble_eq_true rfl) (Nat.le_of_ble_eq_true rfl) dX5_init_24 (fun q3 H w => ?_)
  have w : WW D A s _ _ ([(h0, .inr (5, [.ref q1, .ref q2, .null, .null, .int 0, .int 0, .int 0, .int 0, .int 0, .int 0, .int 0])), (q1, .inl (T.2.2, 8, .inr (.inr (.inr (.inr (fun _ => none)))))), (q2, .inl (T.1, 7, .inl zf)), (q3, .inl (T.1, 7, .inl zf))]) := w
  refine pf X (slot := 2) (ty := .array .int) w rfl inX5 tyX5 tyX5_ok nmX5 (by decide) tw_fl_X5_21 rfl rfl (by decide +kernel) rfl rfl (Nat.le_of_ble_eq_true rfl) dX5_init_26 (fun H locs w => ?_)
  have w : WW D A s _ _ ([(h0, .inr (5, [.ref q1, .ref q2, .ref q3, .null, .int 0, .int 0, .int 0, .int 0, .int 0, .int 0, .int 0])), (q1, .inl (T.2.2, 8, .inr (.inr (.inr (.inr (fun _ => none)))))), (q2, .inl (T.1, 7, .inl zf)), (q3, .inl (T.1, 7, .inl zf))]) := w
  refine lv_aload_n hx hb dX5_init_29 rfl (lv_at hl 0 rfl) ?_
  refine lv_bipush (v := (nI 7)) hx hb dX5_init_30 (by decide) ?_
  refine nw_i X.1 w (by decide) (N := 7) (by decide) (Nat.le_of_ble_eq_true rfl) (Nat.le_of_ble_eq_true rfl) (Nat.le_of_ble_eq_true rfl) dX5_init_32 (fun q4 H w => ?_)
  have w : WW D A s _ _ ([(h0, .inr (5, [.ref q1, .ref q2, .ref q3, .null, .int 0, .int 0, .int 0, .int 0, .int 0, .int 0, .int 0])), (q1, .inl (T.2.2, 8, .inr (.inr (.inr (.inr (fun _ => none)))))), (q2, .inl (T.1, 7, .inl zf)), (q3, .inl (T.1, 7, .inl zf)), (q4, .inl (T.1, 7, .inl zf))]) := w
  refine pf X (slot := 3) (ty := .array .int) w rfl inX5 tyX5 tyX5_ok nmX5 (by decide) tw_fl_X5_24 rfl rfl (by decide +kernel) rfl rfl (Nat.le_of_ble_eq_true rfl) dX5_init_34 (fun H locs w => ?_)
  have w : WW D A s _ _ ([(h0, .inr (5, [.ref q1, .ref q2, .ref q3, .ref q4, .int 0, .int 0, .int 0, .int 0, .int 0, .int 0, .int 0])), (q1, .inl (T.2.2, 8, .inr (.inr (.inr (.inr (fun _ => none)))))), (q2, .inl (T.1, 7, .inl zf)), (q3, .inl (T.1, 7, .inl zf)), (q4, .inl (T.1, 7, .inl zf))]) := w
  refine lv_iconst (v := (nI 0)) hx hb dX5_init_37 (by decide) ?_
  refine lv_istore_n (lv' := [(1, .int (nI 0)), (0, .ref h0)]) hx hb dX5_init_38 rfl hl (by decide) rfl (fun ls hl => ?_)
  have w : WW D A s _ _ ([(h0, .inr (5, [.ref q1, .ref q2, .ref q3, .ref q4, .int 0, .int 0, .int 0, .int 0, .int 0, .int 0, .int 0]))] ++ (q1, .inl (T.2.2, 8, .inr (.inr (.inr (.inr (fun _ => none)))))) :: ([(q2, .inl (T.1, 7, .inl zf)), (q3, .inl (T.1, 7, .inl zf)), (q4, .inl (T.1, 7, .inl zf))] ++ bks T (fun _ _ => 0) 0)) := w
  rw [rfs_0 (fun _ _ => 0)] at w
  exact lp_X5 X 8 0 (by omega) _ _ _ _ w hl
theorem if_X7 : IF yX7_init cX7_init 1 := ⟨tw_in_X7, tw_im_X7_init, tw_c_X7_init, rfl, by decide, by decide, by decide +kernel⟩
abbrev rmX7_init : Room := { frames := 3, cells := 314, slots := 2455, locals := 53 }
def poX7 (T : ClassId × ClassId × ClassId) (h0 : Nat) (w : va_W) : Prop := ∃ (q1 q3 q5 q7 q9 q10 q12 q14 q16 q18 : Nat) (v2 v4 v6 v8 v11 v13 v15 v17 v19 : va_W), poX4 T q1 v2 ∧ poX6 T q3 v4 ∧ poX1 T q5 v6 ∧ poX3 T q7 v8 ∧ poX1 T q10 v11 ∧ poX1 T q12 v13 ∧ poX2 T q14 v15 ∧ poX5 T q16 v17 ∧ poX0 T q18 v19 ∧ w = (h0, .inr (7, [.ref q1, .ref q3, .ref q5, .ref q7, .ref q9, .ref q14, .ref q16, .ref q18, .int 0])) :: (((((((((v2 ++ v4) ++ v6) ++ v8) ++ [(q9, .inl (T.2.2, 2, .inr (.inr (.inr (.inr (va_up (va_up (fun _ => none) ((nI 0) : Int32).toNatClampNeg (some q10)) ((nI 1) : Int32).toNatClampNeg (some q12)))))))]) ++ v11) ++ v13) ++ v15) ++ v17) ++ v19)
set_option maxHeartbeats 4000000 in
set_option maxRecDepth 100000 in
theorem C_X7_init {D : va_G} {T : ClassId × ClassId × ClassId} {l : Launch} (h0 sz : Nat) : IM l yX7_init cX7_init 1 rmX7_init D T h0 (.inr (7, [.null, .null, .null, .null, .null, .null, .null, .null, .int 0])) sz (poX7 T h0) 314 2455 := by
  refine ofWalkI (by decide) rfl (Nat.le_of_ble_eq_true rfl) (fun p e s m below meth c ls A X w hl => ?_)
  obtain ⟨⟨⟨hx, hb, hml, hown, hts⟩, hk⟩, hr, hlk, hnm⟩ := id X
  refine lv_aload_n hx hb dX7_init_0 rfl (lv_at hl 0 rfl) ?_
  refine oi X.1 tw_ml_X7_1 hl.1 ⟨Nat.le_of_ble_eq_true rfl, Nat.le_of_ble_eq_true rfl⟩ dX7_init_1 ?_
  refine lv_aload_n hx hb dX7_init_4 rfl (lv_at hl 0 rfl) ?_
  refine nw_o X.1 w (ci := 4) (fs := [.null, .null, .null]) inX4 tyX4 tyX4_ok tw_cl_X7_7 tw_ib_X4 tw_in_X4 rfl (by intro j hj; rcases (show j = 0 ∨ j = 1 ∨ j = 2 by omega) with rfl | rfl | rfl <;> rfl) (Nat.le_of_ble_eq_true rfl) (Nat.le_of_ble_eq_true rfl) dX7_init_5 (fun q1 H w => ?_)
  refine lv_dup hx hb dX7_init_8 rfl ?_
  refine kIN X.1 w (C_X4_init _ _) (List.mem_of_getElem? (i := 0) rfl) if_X4 ⟨rfl, rfl, Nat.le_of_ble_eq_true rfl, Nat.le_of_ble_eq_true rfl⟩ hl.1 (Nat.le_of_ble_eq_true rfl) ⟨Nat.le_of_ble_eq_true rfl, Nat.le_of_ble_eq_true rfl⟩ dX7_init_9 (fun v2 H locs pv2 w => ?_)
  have w : WW D A s _ _ ((h0, .inr (7, [.null, .null, .null, .null, .null, .null, .null, .null, .int 0])) :: v2) := w
  refine pf X (slot := 0) (ty := .object "TellerDays$Rows") w rfl inX7 tyX7 tyX7_ok nmX7 (by decide) tw_fl_X7_10 rfl rfl (by decide +kernel) rfl rfl (Nat.le_of_ble_eq_true rfl) dX7_init_12 (fun H locs w => ?_)
  have w : WW D A s _ _ ((h0, .inr (7, [.ref q1, .null, .null, .null, .null, .null, .null, .null, .int 0])) :: v2) := w
  refine lv_aload_n hx hb dX7_init_15 rfl (lv_at hl 0 rfl) ?_
  refine nw_o X.1 w (ci := 6) (fs := [.null, .null, .int 0, .int 0, .int 0, .int 0]) inX6 tyX6 tyX6_ok tw_cl_X7_16 tw_ib_X6 tw_in_X6 rfl (by intro j hj; rcases (show j = 0 ∨ j = 1 ∨ j = 2 ∨ j = 3 ∨ j = 4 ∨ j = 5 by omega) with rfl | rfl | rfl | rfl | rfl | rfl <;> rfl) (Nat.le_of_ble_eq_true rfl) (Nat.le_of_ble_eq_true rfl) dX7_init_16 (fun q3 H w => ?_)
  refine lv_dup hx hb dX7_init_19 rfl ?_
  refine kIN X.1 w (C_X6_init _ _) (List.mem_of_getElem? (i := 1) rfl) if_X6 ⟨rfl, rfl, Nat.le_of_ble_eq_true rfl, Nat.le_of_ble_eq_true rfl⟩ hl.1 (Nat.le_of_ble_eq_true rfl) ⟨Nat.le_of_ble_eq_true rfl, Nat.le_of_ble_eq_true rfl⟩ dX7_init_20 (fun v4 H locs pv4 w => ?_)
  have w : WW D A s _ _ ((h0, .inr (7, [.ref q1, .null, .null, .null, .null, .null, .null, .null, .int 0])) :: (v2 ++ v4)) := w
  refine pf X (slot := 1) (ty := .object "TellerDays$Tape") w rfl inX7 tyX7 tyX7_ok nmX7 (by decide) tw_fl_X7_19 rfl rfl (by decide +kernel) rfl rfl (Nat.le_of_ble_eq_true rfl) dX7_init_23 (fun H locs w => ?_)
  have w : WW D A s _ _ ((h0, .inr (7, [.ref q1, .ref q3, .null, .null, .null, .null, .null, .null, .int 0])) :: (v2 ++ v4)) := w
  refine lv_aload_n hx hb dX7_init_26 rfl (lv_at hl 0 rfl) ?_
  refine nw_o X.1 w (ci := 1) (fs := [.int 0, .int 0, .int 0, .int 0, .int 0, .int 0, .int 0, .int 0, .int 0, .int 0, .null, .null, .null, .null, .null, .null, .null]) inX1 tyX1 tyX1_ok tw_cl_X7_23 tw_ib_X1 tw_in_X1 rfl (by intro j hj; rcases (show j = 0 ∨ j = 1 ∨ j = 2 ∨ j = 3 ∨ j = 4 ∨ j = 5 ∨ j = 6 ∨ j = 7 ∨ j = 8 ∨ j = 9 ∨ j = 10 ∨ j = 11 ∨ j = 12 ∨ j = 13 ∨ j = 14 ∨ j = 15 ∨ j = 16 by omega) with rfl | rfl | rfl | rfl | rfl | rfl | rfl | rfl | rfl | rfl | rfl | rfl | rfl | rfl | rfl | rfl | rfl <;> rfl) (Nat.le_of_ble_eq_true rfl) (Nat.le_of_ble_eq_true rfl) dX7_init_27 (fun q5 H w => ?_)
  refine lv_dup hx hb dX7_init_30 rfl ?_
  refine kIN X.1 w (C_X1_init _ _) (List.mem_of_getElem? (i := 3) rfl) if_X1 ⟨rfl, rfl, Nat.le_of_ble_eq_true rfl, Nat.le_of_ble_eq_true rfl⟩ hl.1 (Nat.le_of_ble_eq_true rfl) ⟨Nat.le_of_ble_eq_true rfl, Nat.le_of_ble_eq_true rfl⟩ dX7_init_31 (fun v6 H locs pv6 w => ?_)
  have w : WW D A s _ _ ((h0, .inr (7, [.ref q1, .ref q3, .null, .null, .null, .null, .null, .null, .int 0])) :: ((v2 ++ v4) ++ v6)) := w
  refine pf X (slot := 2) (ty := .object "TellerDays$Bank") w rfl inX7 tyX7 tyX7_ok nmX7 (by decide) tw_fl_X7_26 rfl rfl (by decide +kernel) rfl rfl (Nat.le_of_ble_eq_true rfl) dX7_init_34 (fun H locs w => ?_)
  have w : WW D A s _ _ ((h0, .inr (7, [.ref q1, .ref q3, .ref q5, .null, .null, .null, .null, .null, .int 0])) :: ((v2 ++ v4) ++ v6)) := w
  refine lv_aload_n hx hb dX7_init_37 rfl (lv_at hl 0 rfl) ?_
  refine nw_o X.1 w (ci := 3) (fs := [.null, .int 0, .int 0]) inX3 tyX3 tyX3_ok tw_cl_X7_30 tw_ib_X3 tw_in_X3 rfl (by intro j hj; rcases (show j = 0 ∨ j = 1 ∨ j = 2 by omega) with rfl | rfl | rfl <;> rfl) (Nat.le_of_ble_eq_true rfl) (Nat.le_of_ble_eq_true rfl) dX7_init_38 (fun q7 H w => ?_)
  refine lv_dup hx hb dX7_init_41 rfl ?_
  refine kI X.1 w (C_X3_init _ _) tw_ml_X7_32 if_X3 ⟨rfl, rfl, Nat.le_of_ble_eq_true rfl, Nat.le_of_ble_eq_true rfl⟩ hl.1 (Nat.le_of_ble_eq_true rfl) ⟨Nat.le_of_ble_eq_true rfl, Nat.le_of_ble_eq_true rfl⟩ dX7_init_42 (fun v8 H locs pv8 w => ?_)
  have w : WW D A s _ _ ((h0, .inr (7, [.ref q1, .ref q3, .ref q5, .null, .null, .null, .null, .null, .int 0])) :: (((v2 ++ v4) ++ v6) ++ v8)) := w
  refine pf X (slot := 3) (ty := .object "TellerDays$History") w rfl inX7 tyX7 tyX7_ok nmX7 (by decide) tw_fl_X7_33 rfl rfl (by decide +kernel) rfl rfl (Nat.le_of_ble_eq_true rfl) dX7_init_45 (fun H locs w => ?_)
  have w : WW D A s _ _ ((h0, .inr (7, [.ref q1, .ref q3, .ref q5, .ref q7, .null, .null, .null, .null, .int 0])) :: (((v2 ++ v4) ++ v6) ++ v8)) := w
  refine lv_aload_n hx hb dX7_init_48 rfl (lv_at hl 0 rfl) ?_
  refine lv_iconst (v := (nI 2)) hx hb dX7_init_49 (by decide) ?_
  refine nw_q X.1 w tw_cl_X7_23 (by decide) (N := 2) (by decide) (Nat.le_of_ble_eq_true rfl) (Nat.le_of_ble_eq_true rfl) (Nat.le_of_ble_eq_true rfl) dX7_init_50 (fun q9 H w => ?_)
  have w : WW D A s _ _ ((h0, .inr (7, [.ref q1, .ref q3, .ref q5, .ref q7, .null, .null, .null, .null, .int 0])) :: ((((v2 ++ v4) ++ v6) ++ v8) ++ [(q9, .inl (T.2.2, 2, .inr (.inr (.inr (.inr (fun _ => none))))))])) := w
  refine lv_dup hx hb dX7_init_53 rfl ?_
  refine lv_iconst (v := (nI 0)) hx hb dX7_init_54 (by decide) ?_
  refine nw_o X.1 w (ci := 1) (fs := [.int 0, .int 0, .int 0, .int 0, .int 0, .int 0, .int 0, .int 0, .int 0, .int 0, .null, .null, .null, .null, .null, .null, .null]) inX1 tyX1 tyX1_ok tw_cl_X7_23 tw_ib_X1 tw_in_X1 rfl (by intro j hj; rcases (show j = 0 ∨ j = 1 ∨ j = 2 ∨ j = 3 ∨ j = 4 ∨ j = 5 ∨ j = 6 ∨ j = 7 ∨ j = 8 ∨ j = 9 ∨ j = 10 ∨ j = 11 ∨ j = 12 ∨ j = 13 ∨ j = 14 ∨ j = 15 ∨ j = 16 by omega) with rfl | rfl | rfl | rfl | rfl | rfl | rfl | rfl | rfl | rfl | rfl | rfl | rfl | rfl | rfl | rfl | rfl <;> rfl) (Nat.le_of_ble_eq_true rfl) (Nat.le_of_ble_eq_true rfl) dX7_init_55 (fun q10 H w => ?_)
  refine lv_dup hx hb dX7_init_58 rfl ?_
  refine kIN X.1 w (C_X1_init _ _) (List.mem_of_getElem? (i := 3) rfl) if_X1 ⟨rfl, rfl, Nat.le_of_ble_eq_true rfl, Nat.le_of_ble_eq_true rfl⟩ hl.1 (Nat.le_of_ble_eq_true rfl) ⟨Nat.le_of_ble_eq_true rfl, Nat.le_of_ble_eq_true rfl⟩ dX7_init_59 (fun v11 H locs pv11 w => ?_)
  have w : WW D A s _ _ ((h0, .inr (7, [.ref q1, .ref q3, .ref q5, .ref q7, .null, .null, .null, .null, .int 0])) :: (((((v2 ++ v4) ++ v6) ++ v8) ++ [(q9, .inl (T.2.2, 2, .inr (.inr (.inr (.inr (fun _ => none))))))]) ++ v11)) := w
  have w : WW D A s H locs (((h0, .inr (7, [.ref q1, .ref q3, .ref q5, .ref q7, .null, .null, .null, .null, .int 0])) :: (((v2 ++ v4) ++ v6) ++ v8)) ++ (q9, .inl (T.2.2, 2, .inr (.inr (.inr (.inr (fun _ => none)))))) :: v11) := by simpa only [List.append_assoc, List.cons_append, List.nil_append, List.singleton_append] using w
  obtain ⟨vs, hm⟩ := mem_b pv11
  refine sq X.1 w (vs := vs) hm (vp_in_nI (by decide) (by decide)) dX7_init_62 (fun H locs w => ?_)
  have w : WW D A s H locs ((h0, .inr (7, [.ref q1, .ref q3, .ref q5, .ref q7, .null, .null, .null, .null, .int 0])) :: (((((v2 ++ v4) ++ v6) ++ v8) ++ [(q9, .inl (T.2.2, 2, .inr (.inr (.inr (.inr (va_up (fun _ => none) ((nI 0) : Int32).toNatClampNeg (some q10)))))))]) ++ v11)) := by simpa only [List.append_assoc, List.cons_append, List.nil_append, List.singleton_append] using w
  refine lv_dup hx hb dX7_init_63 rfl ?_
  refine lv_iconst (v := (nI 1)) hx hb dX7_init_64 (by decide) ?_
  refine nw_o X.1 w (ci := 1) (fs := [.int 0, .int 0, .int 0, .int 0, .int 0, .int 0, .int 0, .int 0, .int 0, .int 0, .null, .null, .null, .null, .null, .null, .null]) inX1 tyX1 tyX1_ok tw_cl_X7_23 tw_ib_X1 tw_in_X1 rfl (by intro j hj; rcases (show j = 0 ∨ j = 1 ∨ j = 2 ∨ j = 3 ∨ j = 4 ∨ j = 5 ∨ j = 6 ∨ j = 7 ∨ j = 8 ∨ j = 9 ∨ j = 10 ∨ j = 11 ∨ j = 12 ∨ j = 13 ∨ j = 14 ∨ j = 15 ∨ j = 16 by omega) with rfl | rfl | rfl | rfl | rfl | rfl | rfl | rfl | rfl | rfl | rfl | rfl | rfl | rfl | rfl | rfl | rfl <;> rfl) (Nat.le_of_ble_eq_true rfl) (Nat.le_of_ble_eq_true rfl) dX7_init_65 (fun q12 H w => ?_)
  refine lv_dup hx hb dX7_init_68 rfl ?_
  refine kIN X.1 w (C_X1_init _ _) (List.mem_of_getElem? (i := 3) rfl) if_X1 ⟨rfl, rfl, Nat.le_of_ble_eq_true rfl, Nat.le_of_ble_eq_true rfl⟩ hl.1 (Nat.le_of_ble_eq_true rfl) ⟨Nat.le_of_ble_eq_true rfl, Nat.le_of_ble_eq_true rfl⟩ dX7_init_69 (fun v13 H locs pv13 w => ?_)
  have w : WW D A s _ _ ((h0, .inr (7, [.ref q1, .ref q3, .ref q5, .ref q7, .null, .null, .null, .null, .int 0])) :: ((((((v2 ++ v4) ++ v6) ++ v8) ++ [(q9, .inl (T.2.2, 2, .inr (.inr (.inr (.inr (va_up (fun _ => none) ((nI 0) : Int32).toNatClampNeg (some q10)))))))]) ++ v11) ++ v13)) := w
  have w : WW D A s H locs (((h0, .inr (7, [.ref q1, .ref q3, .ref q5, .ref q7, .null, .null, .null, .null, .int 0])) :: (((v2 ++ v4) ++ v6) ++ v8)) ++ (q9, .inl (T.2.2, 2, .inr (.inr (.inr (.inr (va_up (fun _ => none) ((nI 0) : Int32).toNatClampNeg (some q10))))))) :: (v11 ++ v13)) := by simpa only [List.append_assoc, List.cons_append, List.nil_append, List.singleton_append] using w
  obtain ⟨vs, hm⟩ := mem_b pv13
  refine sq X.1 w (vs := vs) (List.mem_append_right _ hm) (vp_in_nI (by decide) (by decide)) dX7_init_72 (fun H locs w => ?_)
  have w : WW D A s H locs ((h0, .inr (7, [.ref q1, .ref q3, .ref q5, .ref q7, .null, .null, .null, .null, .int 0])) :: ((((((v2 ++ v4) ++ v6) ++ v8) ++ [(q9, .inl (T.2.2, 2, .inr (.inr (.inr (.inr (va_up (va_up (fun _ => none) ((nI 0) : Int32).toNatClampNeg (some q10)) ((nI 1) : Int32).toNatClampNeg (some q12)))))))]) ++ v11) ++ v13)) := by simpa only [List.append_assoc, List.cons_append, List.nil_append, List.singleton_append] using w
  refine pf X (slot := 4) (ty := .array (.object "TellerDays$Bank")) w rfl inX7 tyX7 tyX7_ok nmX7 (by decide) tw_fl_X7_37 rfl rfl (by decide +kernel) rfl rfl (Nat.le_of_ble_eq_true rfl) dX7_init_73 (fun H locs w => ?_)
  have w : WW D A s _ _ ((h0, .inr (7, [.ref q1, .ref q3, .ref q5, .ref q7, .ref q9, .null, .null, .null, .int 0])) :: ((((((v2 ++ v4) ++ v6) ++ v8) ++ [(q9, .inl (T.2.2, 2, .inr (.inr (.inr (.inr (va_up (va_up (fun _ => none) ((nI 0) : Int32).toNatClampNeg (some q10)) ((nI 1) : Int32).toNatClampNeg (some q12)))))))]) ++ v11) ++ v13)) := w
  refine lv_aload_n hx hb dX7_init_76 rfl (lv_at hl 0 rfl) ?_
  refine nw_o X.1 w (ci := 2) (fs := [.null, .null, .int 0, .int 0]) inX2 tyX2 tyX2_ok tw_cl_X7_41 tw_ib_X2 tw_in_X2 rfl (by intro j hj; rcases (show j = 0 ∨ j = 1 ∨ j = 2 ∨ j = 3 by omega) with rfl | rfl | rfl | rfl <;> rfl) (Nat.le_of_ble_eq_true rfl) (Nat.le_of_ble_eq_true rfl) dX7_init_77 (fun q14 H w => ?_)
  refine lv_dup hx hb dX7_init_80 rfl ?_
  refine kIN X.1 w (C_X2_init _ _) (List.mem_of_getElem? (i := 5) rfl) if_X2 ⟨rfl, rfl, Nat.le_of_ble_eq_true rfl, Nat.le_of_ble_eq_true rfl⟩ hl.1 (Nat.le_of_ble_eq_true rfl) ⟨Nat.le_of_ble_eq_true rfl, Nat.le_of_ble_eq_true rfl⟩ dX7_init_81 (fun v15 H locs pv15 w => ?_)
  have w : WW D A s _ _ ((h0, .inr (7, [.ref q1, .ref q3, .ref q5, .ref q7, .ref q9, .null, .null, .null, .int 0])) :: (((((((v2 ++ v4) ++ v6) ++ v8) ++ [(q9, .inl (T.2.2, 2, .inr (.inr (.inr (.inr (va_up (va_up (fun _ => none) ((nI 0) : Int32).toNatClampNeg (some q10)) ((nI 1) : Int32).toNatClampNeg (some q12)))))))]) ++ v11) ++ v13) ++ v15)) := w
  refine pf X (slot := 5) (ty := .object "TellerDays$Foresight") w rfl inX7 tyX7 tyX7_ok nmX7 (by decide) tw_fl_X7_44 rfl rfl (by decide +kernel) rfl rfl (Nat.le_of_ble_eq_true rfl) dX7_init_84 (fun H locs w => ?_)
  have w : WW D A s _ _ ((h0, .inr (7, [.ref q1, .ref q3, .ref q5, .ref q7, .ref q9, .ref q14, .null, .null, .int 0])) :: (((((((v2 ++ v4) ++ v6) ++ v8) ++ [(q9, .inl (T.2.2, 2, .inr (.inr (.inr (.inr (va_up (va_up (fun _ => none) ((nI 0) : Int32).toNatClampNeg (some q10)) ((nI 1) : Int32).toNatClampNeg (some q12)))))))]) ++ v11) ++ v13) ++ v15)) := w
  refine lv_aload_n hx hb dX7_init_87 rfl (lv_at hl 0 rfl) ?_
  refine nw_o X.1 w (ci := 5) (fs := [.null, .null, .null, .null, .int 0, .int 0, .int 0, .int 0, .int 0, .int 0, .int 0]) inX5 tyX5 tyX5_ok tw_cl_X7_48 tw_ib_X5 tw_in_X5 rfl (by intro j hj; rcases (show j = 0 ∨ j = 1 ∨ j = 2 ∨ j = 3 ∨ j = 4 ∨ j = 5 ∨ j = 6 ∨ j = 7 ∨ j = 8 ∨ j = 9 ∨ j = 10 by omega) with rfl | rfl | rfl | rfl | rfl | rfl | rfl | rfl | rfl | rfl | rfl <;> rfl) (Nat.le_of_ble_eq_true rfl) (Nat.le_of_ble_eq_true rfl) dX7_init_88 (fun q16 H w => ?_)
  refine lv_dup hx hb dX7_init_91 rfl ?_
  refine kI X.1 w (C_X5_init _ _) tw_ml_X7_50 if_X5 ⟨rfl, rfl, Nat.le_of_ble_eq_true rfl, Nat.le_of_ble_eq_true rfl⟩ hl.1 (Nat.le_of_ble_eq_true rfl) ⟨Nat.le_of_ble_eq_true rfl, Nat.le_of_ble_eq_true rfl⟩ dX7_init_92 (fun v17 H locs pv17 w => ?_)
  have w : WW D A s _ _ ((h0, .inr (7, [.ref q1, .ref q3, .ref q5, .ref q7, .ref q9, .ref q14, .null, .null, .int 0])) :: ((((((((v2 ++ v4) ++ v6) ++ v8) ++ [(q9, .inl (T.2.2, 2, .inr (.inr (.inr (.inr (va_up (va_up (fun _ => none) ((nI 0) : Int32).toNatClampNeg (some q10)) ((nI 1) : Int32).toNatClampNeg (some q12)))))))]) ++ v11) ++ v13) ++ v15) ++ v17)) := w
  refine pf X (slot := 6) (ty := .object "TellerDays$Search") w rfl inX7 tyX7 tyX7_ok nmX7 (by decide) tw_fl_X7_51 rfl rfl (by decide +kernel) rfl rfl (Nat.le_of_ble_eq_true rfl) dX7_init_95 (fun H locs w => ?_)
  have w : WW D A s _ _ ((h0, .inr (7, [.ref q1, .ref q3, .ref q5, .ref q7, .ref q9, .ref q14, .ref q16, .null, .int 0])) :: ((((((((v2 ++ v4) ++ v6) ++ v8) ++ [(q9, .inl (T.2.2, 2, .inr (.inr (.inr (.inr (va_up (va_up (fun _ => none) ((nI 0) : Int32).toNatClampNeg (some q10)) ((nI 1) : Int32).toNatClampNeg (some q12)))))))]) ++ v11) ++ v13) ++ v15) ++ v17)) := w
  refine lv_aload_n hx hb dX7_init_98 rfl (lv_at hl 0 rfl) ?_
  refine nw_o X.1 w (ci := 0) (fs := [.null, .int 0]) inX0 tyX0 tyX0_ok tw_cl_X7_55 tw_ib_X0 tw_in_X0 rfl (by intro j hj; rcases (show j = 0 ∨ j = 1 by omega) with rfl | rfl <;> rfl) (Nat.le_of_ble_eq_true rfl) (Nat.le_of_ble_eq_true rfl) dX7_init_99 (fun q18 H w => ?_)
  refine lv_dup hx hb dX7_init_102 rfl ?_
  refine kIN X.1 w (C_X0_init _ _) (List.mem_of_getElem? (i := 8) rfl) if_X0 ⟨rfl, rfl, Nat.le_of_ble_eq_true rfl, Nat.le_of_ble_eq_true rfl⟩ hl.1 (Nat.le_of_ble_eq_true rfl) ⟨Nat.le_of_ble_eq_true rfl, Nat.le_of_ble_eq_true rfl⟩ dX7_init_103 (fun v19 H locs pv19 w => ?_)
  have w : WW D A s _ _ ((h0, .inr (7, [.ref q1, .ref q3, .ref q5, .ref q7, .ref q9, .ref q14, .ref q16, .null, .int 0])) :: (((((((((v2 ++ v4) ++ v6) ++ v8) ++ [(q9, .inl (T.2.2, 2, .inr (.inr (.inr (.inr (va_up (va_up (fun _ => none) ((nI 0) : Int32).toNatClampNeg (some q10)) ((nI 1) : Int32).toNatClampNeg (some q12)))))))]) ++ v11) ++ v13) ++ v15) ++ v17) ++ v19)) := w
  refine pf X (slot := 7) (ty := .object "TellerDays$Asker") w rfl inX7 tyX7 tyX7_ok nmX7 (by decide) tw_fl_X7_58 rfl rfl (by decide +kernel) rfl rfl (Nat.le_of_ble_eq_true rfl) dX7_init_106 (fun H locs w => ?_)
  have w : WW D A s _ _ ((h0, .inr (7, [.ref q1, .ref q3, .ref q5, .ref q7, .ref q9, .ref q14, .ref q16, .ref q18, .int 0])) :: (((((((((v2 ++ v4) ++ v6) ++ v8) ++ [(q9, .inl (T.2.2, 2, .inr (.inr (.inr (.inr (va_up (va_up (fun _ => none) ((nI 0) : Int32).toNatClampNeg (some q10)) ((nI 1) : Int32).toNatClampNeg (some q12)))))))]) ++ v11) ++ v13) ++ v15) ++ v17) ++ v19)) := w
  refine W.widen (k := 314) (n := 2455) (Nat.le_of_ble_eq_true rfl) (Nat.le_of_ble_eq_true rfl) ?_
  exact rt_I X w ⟨q1, q3, q5, q7, q9, q10, q12, q14, q16, q18, v2, v4, v6, v8, v11, v13, v15, v17, v19, pv2, pv4, pv6, pv8, pv11, pv13, pv15, pv17, pv19, rfl⟩ dX7_init_109
theorem if_X8 : IF yX8_init cX8_init 2 := ⟨tw_in_X8, tw_im_X8_init, tw_c_X8_init, rfl, by decide, by decide, by decide +kernel⟩
abbrev rmX8_init : Room := { frames := 1, cells := 9, slots := 1860, locals := 12 }
def mr (n : Nat) : Nat → Int32 := fun q => if 22 ≤ q ∧ q < 22 + n then -nI 1 else 0
theorem mr_up (n : Nat) : upd (mr n) (22 + n) (-nI 1) = mr (n + 1) := by
  funext q
  unfold mr
  by_cases c : q = 22 + n
  · subst c; rw [upd_eq, if_pos (by omega)]
  · rw [upd_ne c]
    by_cases c2 : 22 ≤ q ∧ q < 22 + n
    · rw [if_pos c2, if_pos (by omega)]
    · rw [if_neg c2, if_neg (by omega)]
theorem mr_0 : zf = mr 0 := by
  funext q; unfold mr; rw [if_neg (by omega)]; rfl
def poX8 (T : ClassId × ClassId × ClassId) (h0 : Nat) (w : va_W) : Prop := ∃ (q1 q2 q3 q4 q5 q6 q7 q8 q9 : Nat), w = [(h0, .inr (8, [.ref q1, .int 0, .int 0, .ref q2, .ref q3, .ref q4, .ref q5, .ref q6, .int 0, .int 0, .int 0, .ref q7, .int 0, .int 0, .int 0, .int 0, .ref q8, .ref q9])), (q1, .inl (T.1, 1372, .inl (mr 7))), (q2, .inl (T.2.1, 2, .inl zf)), (q3, .inl (T.1, 8, .inl zf)), (q4, .inl (T.1, 8, .inl sz0)), (q5, .inl (T.1, 320, .inl zf)), (q6, .inl (T.1, 120, .inl zf)), (q7, .inl (T.1, 16, .inl zf)), (q8, .inl (T.1, 7, .inl zf)), (q9, .inl (T.1, 7, .inl zf))]
set_option maxHeartbeats 4000000 in
set_option maxRecDepth 100000 in
theorem lp_X8 {D : va_G} {T : ClassId × ClassId × ClassId} {p : Program} {l : Launch} {e : Env} {s : State} {m : MethodId} {args : Array Value} {below : List Frame} {meth : Method} {c : Code} {A : Nat → Prop} {h0 q1 q2 q3 q4 q5 q6 q7 q8 q9 : Nat} (X : CI D T p s m args meth c cX8_init 2 RX8) : ∀ (d n : Nat), n + d = 7 → ∀ (H : Heap) (locs : List Loc) (ls : Array Slot), WW D A s H locs ([(h0, .inr (8, [.ref q1, .int 0, .int 0, .ref q2, .ref q3, .ref q4, .ref q5, .ref q6, .int 0, .int 0, .int 0, .ref q7, .int 0, .int 0, .int 0, .int 0, .ref q8, .ref q9])), (q1, .inl (T.1, 1372, .inl (mr n))), (q2, .inl (T.2.1, 2, .inl zf)), (q3, .inl (T.1, 8, .inl zf)), (q4, .inl (T.1, 8, .inl sz0)), (q5, .inl (T.1, 320, .inl zf)), (q6, .inl (T.1, 120, .inl zf)), (q7, .inl (T.1, 16, .inl zf)), (q8, .inl (T.1, 7, .inl zf)), (q9, .inl (T.1, 7, .inl zf))]) → lv_has ls 2 [(1, .int (nI n)), (0, .ref h0)] → W p l e rmX8_init s m args below meth c H locs 9 1860 (MQ below (va_Qv (poX8 T h0) (IB D A) A) args s 9 1860 A) (F0 m 113 ls []) := by
  obtain ⟨⟨⟨hx, hb, hml, hown, hts⟩, hk⟩, hr, hlk, hnm⟩ := id X
  intro d
  induction d with
  | zero =>
    intro n hn H locs ls w hl
    have e : n = 7 := by omega
    subst e
    refine lv_iload_n hx hb dX8_init_113 rfl (lv_at hl 0 rfl) ?_
    refine lv_bipush (v := (nI 7)) hx hb dX8_init_114 (by decide) ?_
    refine lv_icmp_ge (tgt := 135) hx hb dX8_init_116 (by decide) (fun _ => ?_) (fun q => absurd (by decide) q)
    exact rt_I X w ⟨q1, q2, q3, q4, q5, q6, q7, q8, q9, rfl⟩ dX8_init_135
  | succ d ih =>
    intro n hn H locs ls w hl
    refine lv_iload_n hx hb dX8_init_113 rfl (lv_at hl 0 rfl) ?_
    refine lv_bipush (v := (nI 7)) hx hb dX8_init_114 (by decide) ?_
    refine lv_icmp_ge (tgt := 135) hx hb dX8_init_116 (by decide) (fun q => absurd q (by rw [nIle (by omega) (by omega)]; omega)) (fun _ => ?_)
    refine lv_aload_n hx hb dX8_init_119 rfl (lv_at hl 1 rfl) ?_
    refine gf X.1 (slot := 0) w rfl inX8 (by decide) tw_fl_X8_7 rfl dX8_init_120 ?_
    refine lv_bipush (v := (nI 22)) hx hb dX8_init_123 (by decide) ?_
    refine lv_iload_n hx hb dX8_init_125 rfl (lv_at hl 0 rfl) ?_
    refine lv_iadd hx hb dX8_init_126 ?_
    refine lv_iconst (v := (-nI 1)) hx hb dX8_init_127 (by decide) ?_
    refine sa X.1 w 1 rfl (show vp_in (nI 22 + nI n) 1372 by rw [nI_add, nIvp (by omega) (by omega)]; omega) dX8_init_128 (fun H locs w => ?_)
    rw [nI_add, nIcl (by omega), mr_up] at w
    refine lv_iinc (v := nI (n + 1)) (lv' := [(1, .int (nI (n + 1))), (0, .ref h0)]) hx hb dX8_init_129 hl (k := 0) rfl (by rw [← nI_add]; rfl) (by decide) rfl (fun ls hl => ?_)
    refine lv_goto (tgt := 113) hx hb dX8_init_132 (by decide) ?_
    exact ih (n + 1) (by omega) _ _ _ w hl
set_option maxHeartbeats 4000000 in
set_option maxRecDepth 100000 in
theorem C_X8_init {D : va_G} {T : ClassId × ClassId × ClassId} {l : Launch} (h0 sz : Nat) : IM l yX8_init cX8_init 2 rmX8_init D T h0 (.inr (8, [.null, .int 0, .int 0, .null, .null, .null, .null, .null, .int 0, .int 0, .int 0, .null, .int 0, .int 0, .int 0, .int 0, .null, .null])) sz (poX8 T h0) 9 1860 := by
  refine ofWalkI (by decide) rfl (Nat.le_of_ble_eq_true rfl) (fun p e s m below meth c ls A X w hl => ?_)
  obtain ⟨⟨⟨hx, hb, hml, hown, hts⟩, hk⟩, hr, hlk, hnm⟩ := id X
  refine lv_aload_n hx hb dX8_init_0 rfl (lv_at hl 0 rfl) ?_
  refine oi X.1 tw_ml_X8_1 hl.1 ⟨Nat.le_of_ble_eq_true rfl, Nat.le_of_ble_eq_true rfl⟩ dX8_init_1 ?_
  refine lv_aload_n hx hb dX8_init_4 rfl (lv_at hl 0 rfl) ?_
  refine lv_sipush (v := (nI 1372)) hx hb dX8_init_5 (by decide) ?_
  refine nw_i X.1 w (by decide) (N := 1372) (by decide) (Nat.le_of_ble_eq_true rfl) (Nat.le_of_ble_eq_true rfl) (Nat.le_of_ble_eq_true rfl) dX8_init_8 (fun q1 H w => ?_)
  have w : WW D A s _ _ ([(h0, .inr (8, [.null, .int 0, .int 0, .null, .null, .null, .null, .null, .int 0, .int 0, .int 0, .null, .int 0, .int 0, .int 0, .int 0, .null, .null])), (q1, .inl (T.1, 1372, .inl zf))]) := w
  refine pf X (slot := 0) (ty := .array .int) w rfl inX8 tyX8 tyX8_ok nmX8 (by decide) tw_fl_X8_7 rfl rfl (by decide +kernel) rfl rfl (Nat.le_of_ble_eq_true rfl) dX8_init_10 (fun H locs w => ?_)
  have w : WW D A s _ _ ([(h0, .inr (8, [.ref q1, .int 0, .int 0, .null, .null, .null, .null, .null, .int 0, .int 0, .int 0, .null, .int 0, .int 0, .int 0, .int 0, .null, .null])), (q1, .inl (T.1, 1372, .inl zf))]) := w
  refine lv_aload_n hx hb dX8_init_13 rfl (lv_at hl 0 rfl) ?_
  refine lv_iconst (v := (nI 2)) hx hb dX8_init_14 (by decide) ?_
  refine nw_z X.1 w (by decide) (N := 2) (by decide) (Nat.le_of_ble_eq_true rfl) (Nat.le_of_ble_eq_true rfl) (Nat.le_of_ble_eq_true rfl) dX8_init_15 (fun q2 H w => ?_)
  have w : WW D A s _ _ ([(h0, .inr (8, [.ref q1, .int 0, .int 0, .null, .null, .null, .null, .null, .int 0, .int 0, .int 0, .null, .int 0, .int 0, .int 0, .int 0, .null, .null])), (q1, .inl (T.1, 1372, .inl zf)), (q2, .inl (T.2.1, 2, .inl zf))]) := w
  refine pf X (slot := 3) (ty := .array .boolean) w rfl inX8 tyX8 tyX8_ok nmX8 (by decide) tw_fl_X8_13 rfl rfl (by decide +kernel) rfl rfl (Nat.le_of_ble_eq_true rfl) dX8_init_17 (fun H locs w => ?_)
  have w : WW D A s _ _ ([(h0, .inr (8, [.ref q1, .int 0, .int 0, .ref q2, .null, .null, .null, .null, .int 0, .int 0, .int 0, .null, .int 0, .int 0, .int 0, .int 0, .null, .null])), (q1, .inl (T.1, 1372, .inl zf)), (q2, .inl (T.2.1, 2, .inl zf))]) := w
  refine lv_aload_n hx hb dX8_init_20 rfl (lv_at hl 0 rfl) ?_
  refine lv_bipush (v := (nI 8)) hx hb dX8_init_21 (by decide) ?_
  refine nw_i X.1 w (by decide) (N := 8) (by decide) (Nat.le_of_ble_eq_true rfl) (Nat.le_of_ble_eq_true rfl) (Nat.le_of_ble_eq_true rfl) dX8_init_23 (fun q3 H w => ?_)
  have w : WW D A s _ _ ([(h0, .inr (8, [.ref q1, .int 0, .int 0, .ref q2, .null, .null, .null, .null, .int 0, .int 0, .int 0, .null, .int 0, .int 0, .int 0, .int 0, .null, .null])), (q1, .inl (T.1, 1372, .inl zf)), (q2, .inl (T.2.1, 2, .inl zf)), (q3, .inl (T.1, 8, .inl zf))]) := w
  refine pf X (slot := 4) (ty := .array .int) w rfl inX8 tyX8 tyX8_ok nmX8 (by decide) tw_fl_X8_17 rfl rfl (by decide +kernel) rfl rfl (Nat.le_of_ble_eq_true rfl) dX8_init_25 (fun H locs w => ?_)
  have w : WW D A s _ _ ([(h0, .inr (8, [.ref q1, .int 0, .int 0, .ref q2, .ref q3, .null, .null, .null, .int 0, .int 0, .int 0, .null, .int 0, .int 0, .int 0, .int 0, .null, .null])), (q1, .inl (T.1, 1372, .inl zf)), (q2, .inl (T.2.1, 2, .inl zf)), (q3, .inl (T.1, 8, .inl zf))]) := w
  refine lv_aload_n hx hb dX8_init_28 rfl (lv_at hl 0 rfl) ?_
  refine lv_bipush (v := (nI 8)) hx hb dX8_init_29 (by decide) ?_
  refine nw_i X.1 w (by decide) (N := 8) (by decide) (Nat.le_of_ble_eq_true rfl) (Nat.le_of_ble_eq_true rfl) (Nat.le_of_ble_eq_true rfl) dX8_init_31 (fun q4 H w => ?_)
  have w : WW D A s _ _ ([(h0, .inr (8, [.ref q1, .int 0, .int 0, .ref q2, .ref q3, .null, .null, .null, .int 0, .int 0, .int 0, .null, .int 0, .int 0, .int 0, .int 0, .null, .null])), (q1, .inl (T.1, 1372, .inl zf)), (q2, .inl (T.2.1, 2, .inl zf)), (q3, .inl (T.1, 8, .inl zf)), (q4, .inl (T.1, 8, .inl zf))]) := w
  refine lv_dup hx hb dX8_init_33 rfl ?_
  refine lv_iconst (v := (nI 0)) hx hb dX8_init_34 (by decide) ?_
  refine lv_iconst (v := (-nI 1)) hx hb dX8_init_35 (by decide) ?_
  refine sa X.1 w 4 rfl (vp_in_nI (by decide) (by decide)) dX8_init_36 (fun H locs w => ?_)
  have w : WW D A s _ _ ([(h0, .inr (8, [.ref q1, .int 0, .int 0, .ref q2, .ref q3, .null, .null, .null, .int 0, .int 0, .int 0, .null, .int 0, .int 0, .int 0, .int 0, .null, .null])), (q1, .inl (T.1, 1372, .inl zf)), (q2, .inl (T.2.1, 2, .inl zf)), (q3, .inl (T.1, 8, .inl zf)), (q4, .inl (T.1, 8, .inl (upd zf ((nI 0) : Int32).toNatClampNeg (-nI 1))))]) := w
  refine lv_dup hx hb dX8_init_37 rfl ?_
  refine lv_iconst (v := (nI 1)) hx hb dX8_init_38 (by decide) ?_
  refine lv_iconst (v := (-nI 1)) hx hb dX8_init_39 (by decide) ?_
  refine sa X.1 w 4 rfl (vp_in_nI (by decide) (by decide)) dX8_init_40 (fun H locs w => ?_)
  have w : WW D A s _ _ ([(h0, .inr (8, [.ref q1, .int 0, .int 0, .ref q2, .ref q3, .null, .null, .null, .int 0, .int 0, .int 0, .null, .int 0, .int 0, .int 0, .int 0, .null, .null])), (q1, .inl (T.1, 1372, .inl zf)), (q2, .inl (T.2.1, 2, .inl zf)), (q3, .inl (T.1, 8, .inl zf)), (q4, .inl (T.1, 8, .inl (upd (upd zf ((nI 0) : Int32).toNatClampNeg (-nI 1)) ((nI 1) : Int32).toNatClampNeg (-nI 1))))]) := w
  refine lv_dup hx hb dX8_init_41 rfl ?_
  refine lv_iconst (v := (nI 2)) hx hb dX8_init_42 (by decide) ?_
  refine lv_iconst (v := (-nI 1)) hx hb dX8_init_43 (by decide) ?_
  refine sa X.1 w 4 rfl (vp_in_nI (by decide) (by decide)) dX8_init_44 (fun H locs w => ?_)
  have w : WW D A s _ _ ([(h0, .inr (8, [.ref q1, .int 0, .int 0, .ref q2, .ref q3, .null, .null, .null, .int 0, .int 0, .int 0, .null, .int 0, .int 0, .int 0, .int 0, .null, .null])), (q1, .inl (T.1, 1372, .inl zf)), (q2, .inl (T.2.1, 2, .inl zf)), (q3, .inl (T.1, 8, .inl zf)), (q4, .inl (T.1, 8, .inl (upd (upd (upd zf ((nI 0) : Int32).toNatClampNeg (-nI 1)) ((nI 1) : Int32).toNatClampNeg (-nI 1)) ((nI 2) : Int32).toNatClampNeg (-nI 1))))]) := w
  refine lv_dup hx hb dX8_init_45 rfl ?_
  refine lv_iconst (v := (nI 3)) hx hb dX8_init_46 (by decide) ?_
  refine lv_iconst (v := (-nI 1)) hx hb dX8_init_47 (by decide) ?_
  refine sa X.1 w 4 rfl (vp_in_nI (by decide) (by decide)) dX8_init_48 (fun H locs w => ?_)
  have w : WW D A s _ _ ([(h0, .inr (8, [.ref q1, .int 0, .int 0, .ref q2, .ref q3, .null, .null, .null, .int 0, .int 0, .int 0, .null, .int 0, .int 0, .int 0, .int 0, .null, .null])), (q1, .inl (T.1, 1372, .inl zf)), (q2, .inl (T.2.1, 2, .inl zf)), (q3, .inl (T.1, 8, .inl zf)), (q4, .inl (T.1, 8, .inl (upd (upd (upd (upd zf ((nI 0) : Int32).toNatClampNeg (-nI 1)) ((nI 1) : Int32).toNatClampNeg (-nI 1)) ((nI 2) : Int32).toNatClampNeg (-nI 1)) ((nI 3) : Int32).toNatClampNeg (-nI 1))))]) := w
  refine lv_dup hx hb dX8_init_49 rfl ?_
  refine lv_iconst (v := (nI 4)) hx hb dX8_init_50 (by decide) ?_
  refine lv_iconst (v := (-nI 1)) hx hb dX8_init_51 (by decide) ?_
  refine sa X.1 w 4 rfl (vp_in_nI (by decide) (by decide)) dX8_init_52 (fun H locs w => ?_)
  have w : WW D A s _ _ ([(h0, .inr (8, [.ref q1, .int 0, .int 0, .ref q2, .ref q3, .null, .null, .null, .int 0, .int 0, .int 0, .null, .int 0, .int 0, .int 0, .int 0, .null, .null])), (q1, .inl (T.1, 1372, .inl zf)), (q2, .inl (T.2.1, 2, .inl zf)), (q3, .inl (T.1, 8, .inl zf)), (q4, .inl (T.1, 8, .inl (upd (upd (upd (upd (upd zf ((nI 0) : Int32).toNatClampNeg (-nI 1)) ((nI 1) : Int32).toNatClampNeg (-nI 1)) ((nI 2) : Int32).toNatClampNeg (-nI 1)) ((nI 3) : Int32).toNatClampNeg (-nI 1)) ((nI 4) : Int32).toNatClampNeg (-nI 1))))]) := w
  refine lv_dup hx hb dX8_init_53 rfl ?_
  refine lv_iconst (v := (nI 5)) hx hb dX8_init_54 (by decide) ?_
  refine lv_iconst (v := (-nI 1)) hx hb dX8_init_55 (by decide) ?_
  refine sa X.1 w 4 rfl (vp_in_nI (by decide) (by decide)) dX8_init_56 (fun H locs w => ?_)
  have w : WW D A s _ _ ([(h0, .inr (8, [.ref q1, .int 0, .int 0, .ref q2, .ref q3, .null, .null, .null, .int 0, .int 0, .int 0, .null, .int 0, .int 0, .int 0, .int 0, .null, .null])), (q1, .inl (T.1, 1372, .inl zf)), (q2, .inl (T.2.1, 2, .inl zf)), (q3, .inl (T.1, 8, .inl zf)), (q4, .inl (T.1, 8, .inl (upd (upd (upd (upd (upd (upd zf ((nI 0) : Int32).toNatClampNeg (-nI 1)) ((nI 1) : Int32).toNatClampNeg (-nI 1)) ((nI 2) : Int32).toNatClampNeg (-nI 1)) ((nI 3) : Int32).toNatClampNeg (-nI 1)) ((nI 4) : Int32).toNatClampNeg (-nI 1)) ((nI 5) : Int32).toNatClampNeg (-nI 1))))]) := w
  refine lv_dup hx hb dX8_init_57 rfl ?_
  refine lv_bipush (v := (nI 6)) hx hb dX8_init_58 (by decide) ?_
  refine lv_iconst (v := (-nI 1)) hx hb dX8_init_60 (by decide) ?_
  refine sa X.1 w 4 rfl (vp_in_nI (by decide) (by decide)) dX8_init_61 (fun H locs w => ?_)
  have w : WW D A s _ _ ([(h0, .inr (8, [.ref q1, .int 0, .int 0, .ref q2, .ref q3, .null, .null, .null, .int 0, .int 0, .int 0, .null, .int 0, .int 0, .int 0, .int 0, .null, .null])), (q1, .inl (T.1, 1372, .inl zf)), (q2, .inl (T.2.1, 2, .inl zf)), (q3, .inl (T.1, 8, .inl zf)), (q4, .inl (T.1, 8, .inl (upd (upd (upd (upd (upd (upd (upd zf ((nI 0) : Int32).toNatClampNeg (-nI 1)) ((nI 1) : Int32).toNatClampNeg (-nI 1)) ((nI 2) : Int32).toNatClampNeg (-nI 1)) ((nI 3) : Int32).toNatClampNeg (-nI 1)) ((nI 4) : Int32).toNatClampNeg (-nI 1)) ((nI 5) : Int32).toNatClampNeg (-nI 1)) ((nI 6) : Int32).toNatClampNeg (-nI 1))))]) := w
  refine lv_dup hx hb dX8_init_62 rfl ?_
  refine lv_bipush (v := (nI 7)) hx hb dX8_init_63 (by decide) ?_
  refine lv_iconst (v := (-nI 1)) hx hb dX8_init_65 (by decide) ?_
  refine sa X.1 w 4 rfl (vp_in_nI (by decide) (by decide)) dX8_init_66 (fun H locs w => ?_)
  have w : WW D A s _ _ ([(h0, .inr (8, [.ref q1, .int 0, .int 0, .ref q2, .ref q3, .null, .null, .null, .int 0, .int 0, .int 0, .null, .int 0, .int 0, .int 0, .int 0, .null, .null])), (q1, .inl (T.1, 1372, .inl zf)), (q2, .inl (T.2.1, 2, .inl zf)), (q3, .inl (T.1, 8, .inl zf)), (q4, .inl (T.1, 8, .inl (upd (upd (upd (upd (upd (upd (upd (upd zf ((nI 0) : Int32).toNatClampNeg (-nI 1)) ((nI 1) : Int32).toNatClampNeg (-nI 1)) ((nI 2) : Int32).toNatClampNeg (-nI 1)) ((nI 3) : Int32).toNatClampNeg (-nI 1)) ((nI 4) : Int32).toNatClampNeg (-nI 1)) ((nI 5) : Int32).toNatClampNeg (-nI 1)) ((nI 6) : Int32).toNatClampNeg (-nI 1)) ((nI 7) : Int32).toNatClampNeg (-nI 1))))]) := w
  refine pf X (slot := 5) (ty := .array .int) w rfl inX8 tyX8 tyX8_ok nmX8 (by decide) tw_fl_X8_20 rfl rfl (by decide +kernel) rfl rfl (Nat.le_of_ble_eq_true rfl) dX8_init_67 (fun H locs w => ?_)
  have w : WW D A s _ _ ([(h0, .inr (8, [.ref q1, .int 0, .int 0, .ref q2, .ref q3, .ref q4, .null, .null, .int 0, .int 0, .int 0, .null, .int 0, .int 0, .int 0, .int 0, .null, .null])), (q1, .inl (T.1, 1372, .inl zf)), (q2, .inl (T.2.1, 2, .inl zf)), (q3, .inl (T.1, 8, .inl zf)), (q4, .inl (T.1, 8, .inl (upd (upd (upd (upd (upd (upd (upd (upd zf ((nI 0) : Int32).toNatClampNeg (-nI 1)) ((nI 1) : Int32).toNatClampNeg (-nI 1)) ((nI 2) : Int32).toNatClampNeg (-nI 1)) ((nI 3) : Int32).toNatClampNeg (-nI 1)) ((nI 4) : Int32).toNatClampNeg (-nI 1)) ((nI 5) : Int32).toNatClampNeg (-nI 1)) ((nI 6) : Int32).toNatClampNeg (-nI 1)) ((nI 7) : Int32).toNatClampNeg (-nI 1))))]) := w
  refine lv_aload_n hx hb dX8_init_70 rfl (lv_at hl 0 rfl) ?_
  refine lv_sipush (v := (nI 320)) hx hb dX8_init_71 (by decide) ?_
  refine nw_i X.1 w (by decide) (N := 320) (by decide) (Nat.le_of_ble_eq_true rfl) (Nat.le_of_ble_eq_true rfl) (Nat.le_of_ble_eq_true rfl) dX8_init_74 (fun q5 H w => ?_)
  have w : WW D A s _ _ ([(h0, .inr (8, [.ref q1, .int 0, .int 0, .ref q2, .ref q3, .ref q4, .null, .null, .int 0, .int 0, .int 0, .null, .int 0, .int 0, .int 0, .int 0, .null, .null])), (q1, .inl (T.1, 1372, .inl zf)), (q2, .inl (T.2.1, 2, .inl zf)), (q3, .inl (T.1, 8, .inl zf)), (q4, .inl (T.1, 8, .inl (upd (upd (upd (upd (upd (upd (upd (upd zf ((nI 0) : Int32).toNatClampNeg (-nI 1)) ((nI 1) : Int32).toNatClampNeg (-nI 1)) ((nI 2) : Int32).toNatClampNeg (-nI 1)) ((nI 3) : Int32).toNatClampNeg (-nI 1)) ((nI 4) : Int32).toNatClampNeg (-nI 1)) ((nI 5) : Int32).toNatClampNeg (-nI 1)) ((nI 6) : Int32).toNatClampNeg (-nI 1)) ((nI 7) : Int32).toNatClampNeg (-nI 1)))), (q5, .inl (T.1, 320, .inl zf))]) := w
  refine pf X (slot := 6) (ty := .array .int) w rfl inX8 tyX8 tyX8_ok nmX8 (by decide) tw_fl_X8_23 rfl rfl (by decide +kernel) rfl rfl (Nat.le_of_ble_eq_true rfl) dX8_init_76 (fun H locs w => ?_)
  have w : WW D A s _ _ ([(h0, .inr (8, [.ref q1, .int 0, .int 0, .ref q2, .ref q3, .ref q4, .ref q5, .null, .int 0, .int 0, .int 0, .null, .int 0, .int 0, .int 0, .int 0, .null, .null])), (q1, .inl (T.1, 1372, .inl zf)), (q2, .inl (T.2.1, 2, .inl zf)), (q3, .inl (T.1, 8, .inl zf)), (q4, .inl (T.1, 8, .inl (upd (upd (upd (upd (upd (upd (upd (upd zf ((nI 0) : Int32).toNatClampNeg (-nI 1)) ((nI 1) : Int32).toNatClampNeg (-nI 1)) ((nI 2) : Int32).toNatClampNeg (-nI 1)) ((nI 3) : Int32).toNatClampNeg (-nI 1)) ((nI 4) : Int32).toNatClampNeg (-nI 1)) ((nI 5) : Int32).toNatClampNeg (-nI 1)) ((nI 6) : Int32).toNatClampNeg (-nI 1)) ((nI 7) : Int32).toNatClampNeg (-nI 1)))), (q5, .inl (T.1, 320, .inl zf))]) := w
  refine lv_aload_n hx hb dX8_init_79 rfl (lv_at hl 0 rfl) ?_
  refine lv_bipush (v := (nI 120)) hx hb dX8_init_80 (by decide) ?_
  refine nw_i X.1 w (by decide) (N := 120) (by decide) (Nat.le_of_ble_eq_true rfl) (Nat.le_of_ble_eq_true rfl) (Nat.le_of_ble_eq_true rfl) dX8_init_82 (fun q6 H w => ?_)
  have w : WW D A s _ _ ([(h0, .inr (8, [.ref q1, .int 0, .int 0, .ref q2, .ref q3, .ref q4, .ref q5, .null, .int 0, .int 0, .int 0, .null, .int 0, .int 0, .int 0, .int 0, .null, .null])), (q1, .inl (T.1, 1372, .inl zf)), (q2, .inl (T.2.1, 2, .inl zf)), (q3, .inl (T.1, 8, .inl zf)), (q4, .inl (T.1, 8, .inl (upd (upd (upd (upd (upd (upd (upd (upd zf ((nI 0) : Int32).toNatClampNeg (-nI 1)) ((nI 1) : Int32).toNatClampNeg (-nI 1)) ((nI 2) : Int32).toNatClampNeg (-nI 1)) ((nI 3) : Int32).toNatClampNeg (-nI 1)) ((nI 4) : Int32).toNatClampNeg (-nI 1)) ((nI 5) : Int32).toNatClampNeg (-nI 1)) ((nI 6) : Int32).toNatClampNeg (-nI 1)) ((nI 7) : Int32).toNatClampNeg (-nI 1)))), (q5, .inl (T.1, 320, .inl zf)), (q6, .inl (T.1, 120, .inl zf))]) := w
  refine pf X (slot := 7) (ty := .array .int) w rfl inX8 tyX8 tyX8_ok nmX8 (by decide) tw_fl_X8_26 rfl rfl (by decide +kernel) rfl rfl (Nat.le_of_ble_eq_true rfl) dX8_init_84 (fun H locs w => ?_)
  have w : WW D A s _ _ ([(h0, .inr (8, [.ref q1, .int 0, .int 0, .ref q2, .ref q3, .ref q4, .ref q5, .ref q6, .int 0, .int 0, .int 0, .null, .int 0, .int 0, .int 0, .int 0, .null, .null])), (q1, .inl (T.1, 1372, .inl zf)), (q2, .inl (T.2.1, 2, .inl zf)), (q3, .inl (T.1, 8, .inl zf)), (q4, .inl (T.1, 8, .inl (upd (upd (upd (upd (upd (upd (upd (upd zf ((nI 0) : Int32).toNatClampNeg (-nI 1)) ((nI 1) : Int32).toNatClampNeg (-nI 1)) ((nI 2) : Int32).toNatClampNeg (-nI 1)) ((nI 3) : Int32).toNatClampNeg (-nI 1)) ((nI 4) : Int32).toNatClampNeg (-nI 1)) ((nI 5) : Int32).toNatClampNeg (-nI 1)) ((nI 6) : Int32).toNatClampNeg (-nI 1)) ((nI 7) : Int32).toNatClampNeg (-nI 1)))), (q5, .inl (T.1, 320, .inl zf)), (q6, .inl (T.1, 120, .inl zf))]) := w
  refine lv_aload_n hx hb dX8_init_87 rfl (lv_at hl 0 rfl) ?_
  refine lv_bipush (v := (nI 16)) hx hb dX8_init_88 (by decide) ?_
  refine nw_i X.1 w (by decide) (N := 16) (by decide) (Nat.le_of_ble_eq_true rfl) (Nat.le_of_ble_eq_true rfl) (Nat.le_of_ble_eq_true rfl) dX8_init_90 (fun q7 H w => ?_)
  have w : WW D A s _ _ ([(h0, .inr (8, [.ref q1, .int 0, .int 0, .ref q2, .ref q3, .ref q4, .ref q5, .ref q6, .int 0, .int 0, .int 0, .null, .int 0, .int 0, .int 0, .int 0, .null, .null])), (q1, .inl (T.1, 1372, .inl zf)), (q2, .inl (T.2.1, 2, .inl zf)), (q3, .inl (T.1, 8, .inl zf)), (q4, .inl (T.1, 8, .inl (upd (upd (upd (upd (upd (upd (upd (upd zf ((nI 0) : Int32).toNatClampNeg (-nI 1)) ((nI 1) : Int32).toNatClampNeg (-nI 1)) ((nI 2) : Int32).toNatClampNeg (-nI 1)) ((nI 3) : Int32).toNatClampNeg (-nI 1)) ((nI 4) : Int32).toNatClampNeg (-nI 1)) ((nI 5) : Int32).toNatClampNeg (-nI 1)) ((nI 6) : Int32).toNatClampNeg (-nI 1)) ((nI 7) : Int32).toNatClampNeg (-nI 1)))), (q5, .inl (T.1, 320, .inl zf)), (q6, .inl (T.1, 120, .inl zf)), (q7, .inl (T.1, 16, .inl zf))]) := w
  refine pf X (slot := 11) (ty := .array .int) w rfl inX8 tyX8 tyX8_ok nmX8 (by decide) tw_fl_X8_29 rfl rfl (by decide +kernel) rfl rfl (Nat.le_of_ble_eq_true rfl) dX8_init_92 (fun H locs w => ?_)
  have w : WW D A s _ _ ([(h0, .inr (8, [.ref q1, .int 0, .int 0, .ref q2, .ref q3, .ref q4, .ref q5, .ref q6, .int 0, .int 0, .int 0, .ref q7, .int 0, .int 0, .int 0, .int 0, .null, .null])), (q1, .inl (T.1, 1372, .inl zf)), (q2, .inl (T.2.1, 2, .inl zf)), (q3, .inl (T.1, 8, .inl zf)), (q4, .inl (T.1, 8, .inl (upd (upd (upd (upd (upd (upd (upd (upd zf ((nI 0) : Int32).toNatClampNeg (-nI 1)) ((nI 1) : Int32).toNatClampNeg (-nI 1)) ((nI 2) : Int32).toNatClampNeg (-nI 1)) ((nI 3) : Int32).toNatClampNeg (-nI 1)) ((nI 4) : Int32).toNatClampNeg (-nI 1)) ((nI 5) : Int32).toNatClampNeg (-nI 1)) ((nI 6) : Int32).toNatClampNeg (-nI 1)) ((nI 7) : Int32).toNatClampNeg (-nI 1)))), (q5, .inl (T.1, 320, .inl zf)), (q6, .inl (T.1, 120, .inl zf)), (q7, .inl (T.1, 16, .inl zf))]) := w
  refine lv_aload_n hx hb dX8_init_95 rfl (lv_at hl 0 rfl) ?_
  refine lv_bipush (v := (nI 7)) hx hb dX8_init_96 (by decide) ?_
  refine nw_i X.1 w (by decide) (N := 7) (by decide) (Nat.le_of_ble_eq_true rfl) (Nat.le_of_ble_eq_true rfl) (Nat.le_of_ble_eq_true rfl) dX8_init_98 (fun q8 H w => ?_)
  have w : WW D A s _ _ ([(h0, .inr (8, [.ref q1, .int 0, .int 0, .ref q2, .ref q3, .ref q4, .ref q5, .ref q6, .int 0, .int 0, .int 0, .ref q7, .int 0, .int 0, .int 0, .int 0, .null, .null])), (q1, .inl (T.1, 1372, .inl zf)), (q2, .inl (T.2.1, 2, .inl zf)), (q3, .inl (T.1, 8, .inl zf)), (q4, .inl (T.1, 8, .inl (upd (upd (upd (upd (upd (upd (upd (upd zf ((nI 0) : Int32).toNatClampNeg (-nI 1)) ((nI 1) : Int32).toNatClampNeg (-nI 1)) ((nI 2) : Int32).toNatClampNeg (-nI 1)) ((nI 3) : Int32).toNatClampNeg (-nI 1)) ((nI 4) : Int32).toNatClampNeg (-nI 1)) ((nI 5) : Int32).toNatClampNeg (-nI 1)) ((nI 6) : Int32).toNatClampNeg (-nI 1)) ((nI 7) : Int32).toNatClampNeg (-nI 1)))), (q5, .inl (T.1, 320, .inl zf)), (q6, .inl (T.1, 120, .inl zf)), (q7, .inl (T.1, 16, .inl zf)), (q8, .inl (T.1, 7, .inl zf))]) := w
  refine pf X (slot := 16) (ty := .array .int) w rfl inX8 tyX8 tyX8_ok nmX8 (by decide) tw_fl_X8_32 rfl rfl (by decide +kernel) rfl rfl (Nat.le_of_ble_eq_true rfl) dX8_init_100 (fun H locs w => ?_)
  have w : WW D A s _ _ ([(h0, .inr (8, [.ref q1, .int 0, .int 0, .ref q2, .ref q3, .ref q4, .ref q5, .ref q6, .int 0, .int 0, .int 0, .ref q7, .int 0, .int 0, .int 0, .int 0, .ref q8, .null])), (q1, .inl (T.1, 1372, .inl zf)), (q2, .inl (T.2.1, 2, .inl zf)), (q3, .inl (T.1, 8, .inl zf)), (q4, .inl (T.1, 8, .inl (upd (upd (upd (upd (upd (upd (upd (upd zf ((nI 0) : Int32).toNatClampNeg (-nI 1)) ((nI 1) : Int32).toNatClampNeg (-nI 1)) ((nI 2) : Int32).toNatClampNeg (-nI 1)) ((nI 3) : Int32).toNatClampNeg (-nI 1)) ((nI 4) : Int32).toNatClampNeg (-nI 1)) ((nI 5) : Int32).toNatClampNeg (-nI 1)) ((nI 6) : Int32).toNatClampNeg (-nI 1)) ((nI 7) : Int32).toNatClampNeg (-nI 1)))), (q5, .inl (T.1, 320, .inl zf)), (q6, .inl (T.1, 120, .inl zf)), (q7, .inl (T.1, 16, .inl zf)), (q8, .inl (T.1, 7, .inl zf))]) := w
  refine lv_aload_n hx hb dX8_init_103 rfl (lv_at hl 0 rfl) ?_
  refine lv_bipush (v := (nI 7)) hx hb dX8_init_104 (by decide) ?_
  refine nw_i X.1 w (by decide) (N := 7) (by decide) (Nat.le_of_ble_eq_true rfl) (Nat.le_of_ble_eq_true rfl) (Nat.le_of_ble_eq_true rfl) dX8_init_106 (fun q9 H w => ?_)
  have w : WW D A s _ _ ([(h0, .inr (8, [.ref q1, .int 0, .int 0, .ref q2, .ref q3, .ref q4, .ref q5, .ref q6, .int 0, .int 0, .int 0, .ref q7, .int 0, .int 0, .int 0, .int 0, .ref q8, .null])), (q1, .inl (T.1, 1372, .inl zf)), (q2, .inl (T.2.1, 2, .inl zf)), (q3, .inl (T.1, 8, .inl zf)), (q4, .inl (T.1, 8, .inl (upd (upd (upd (upd (upd (upd (upd (upd zf ((nI 0) : Int32).toNatClampNeg (-nI 1)) ((nI 1) : Int32).toNatClampNeg (-nI 1)) ((nI 2) : Int32).toNatClampNeg (-nI 1)) ((nI 3) : Int32).toNatClampNeg (-nI 1)) ((nI 4) : Int32).toNatClampNeg (-nI 1)) ((nI 5) : Int32).toNatClampNeg (-nI 1)) ((nI 6) : Int32).toNatClampNeg (-nI 1)) ((nI 7) : Int32).toNatClampNeg (-nI 1)))), (q5, .inl (T.1, 320, .inl zf)), (q6, .inl (T.1, 120, .inl zf)), (q7, .inl (T.1, 16, .inl zf)), (q8, .inl (T.1, 7, .inl zf)), (q9, .inl (T.1, 7, .inl zf))]) := w
  refine pf X (slot := 17) (ty := .array .int) w rfl inX8 tyX8 tyX8_ok nmX8 (by decide) tw_fl_X8_35 rfl rfl (by decide +kernel) rfl rfl (Nat.le_of_ble_eq_true rfl) dX8_init_108 (fun H locs w => ?_)
  have w : WW D A s _ _ ([(h0, .inr (8, [.ref q1, .int 0, .int 0, .ref q2, .ref q3, .ref q4, .ref q5, .ref q6, .int 0, .int 0, .int 0, .ref q7, .int 0, .int 0, .int 0, .int 0, .ref q8, .ref q9])), (q1, .inl (T.1, 1372, .inl zf)), (q2, .inl (T.2.1, 2, .inl zf)), (q3, .inl (T.1, 8, .inl zf)), (q4, .inl (T.1, 8, .inl (upd (upd (upd (upd (upd (upd (upd (upd zf ((nI 0) : Int32).toNatClampNeg (-nI 1)) ((nI 1) : Int32).toNatClampNeg (-nI 1)) ((nI 2) : Int32).toNatClampNeg (-nI 1)) ((nI 3) : Int32).toNatClampNeg (-nI 1)) ((nI 4) : Int32).toNatClampNeg (-nI 1)) ((nI 5) : Int32).toNatClampNeg (-nI 1)) ((nI 6) : Int32).toNatClampNeg (-nI 1)) ((nI 7) : Int32).toNatClampNeg (-nI 1)))), (q5, .inl (T.1, 320, .inl zf)), (q6, .inl (T.1, 120, .inl zf)), (q7, .inl (T.1, 16, .inl zf)), (q8, .inl (T.1, 7, .inl zf)), (q9, .inl (T.1, 7, .inl zf))]) := w
  refine lv_iconst (v := (nI 0)) hx hb dX8_init_111 (by decide) ?_
  refine lv_istore_n (lv' := [(1, .int (nI 0)), (0, .ref h0)]) hx hb dX8_init_112 rfl hl (by decide) rfl (fun ls hl => ?_)
  have w : WW D A s H locs ([(h0, .inr (8, [.ref q1, .int 0, .int 0, .ref q2, .ref q3, .ref q4, .ref q5, .ref q6, .int 0, .int 0, .int 0, .ref q7, .int 0, .int 0, .int 0, .int 0, .ref q8, .ref q9])), (q1, .inl (T.1, 1372, .inl (mr 0))), (q2, .inl (T.2.1, 2, .inl zf)), (q3, .inl (T.1, 8, .inl zf)), (q4, .inl (T.1, 8, .inl sz0)), (q5, .inl (T.1, 320, .inl zf)), (q6, .inl (T.1, 120, .inl zf)), (q7, .inl (T.1, 16, .inl zf)), (q8, .inl (T.1, 7, .inl zf)), (q9, .inl (T.1, 7, .inl zf))]) := by
    rw [← mr_0]; exact w
  refine W.widen (k := 9) (n := 1860) (Nat.le_of_ble_eq_true rfl) (Nat.le_of_ble_eq_true rfl) ?_
  exact lp_X8 X 7 0 (by omega) _ _ _ w hl

abbrev rmX7_isWatched : Room := { frames := 0, cells := 0, slots := 0, locals := 0 }
theorem sf_X7_isWatched : SF yX7_isWatched cX7_isWatched 1 (some .boolean) 1 := ⟨tw_in_X7, tw_st_X7_isWatched, tw_c_X7_isWatched, by decide, by decide, by decide +kernel⟩
def wp_X7_isWatched (x0 : Int32) (I : II) (Q : Int32 → II → Prop) : Prop := ((x0 < (nI 1) → (Q (nI 0) I)) ∧ (¬ x0 < (nI 1) → (((nI 12) < x0 → (Q (nI 0) I)) ∧ (¬ (nI 12) < x0 → (Q (nI 1) I)))))
set_option maxHeartbeats 4000000 in
set_option maxRecDepth 100000 in
theorem w_X7_isWatched_0 {E : EE} {p : Program} {l : Launch} {e : Env} {s : State} {m : MethodId} {args : Array Value} {below : List Frame} {meth : Method} {c : Code} {Q : Int32 → II → Prop} (X : CX E p s m args meth c cX7_isWatched 1 (some .boolean) RX7) : ∀ (x0 : Int32) (I : II) (H : Heap) (locs : List Loc) (ls : Array Slot), wp_X7_isWatched x0 I Q → PP E s H locs I → lv_has ls 1 [(0, .int x0)] → W p l e rmX7_isWatched s m args below meth c H locs 0 0 (MQ below (va_Qi Q (BU E) E.2.2.2.1) args s 0 0 E.2.2.2.1) (F0 m 0 ls []) := by
  obtain ⟨⟨hx, hb, hml, hown, hts⟩, hr, hlk, hK, hST, hN⟩ := id X
  intro x0 I H locs ls h hp hl
  unfold wp_X7_isWatched at h
  refine lv_iload_n hx hb dX7_isWatched_0 rfl (lv_at hl 0 rfl) ?_
  refine lv_iconst (v := (nI 1)) hx hb dX7_isWatched_1 (by decide) ?_
  refine lv_icmp_lt (tgt := 15) hx hb dX7_isWatched_2 (by decide) (fun c1 => ?_) (fun c1 => ?_)
  · have h := h.1 c1
    refine lv_iconst (v := (nI 0)) hx hb dX7_isWatched_15 (by decide) ?_
    exact rt_z X hp ⟨Or.inl rfl, h⟩ dX7_isWatched_16
  · have h := h.2 c1
    refine lv_iload_n hx hb dX7_isWatched_5 rfl (lv_at hl 0 rfl) ?_
    refine lv_bipush (v := (nI 12)) hx hb dX7_isWatched_6 (by decide) ?_
    refine lv_icmp_gt (tgt := 15) hx hb dX7_isWatched_8 (by decide) (fun c2 => ?_) (fun c2 => ?_)
    · have h := h.1 c2
      refine lv_iconst (v := (nI 0)) hx hb dX7_isWatched_15 (by decide) ?_
      exact rt_z X hp ⟨Or.inl rfl, h⟩ dX7_isWatched_16
    · have h := h.2 c2
      refine lv_iconst (v := (nI 1)) hx hb dX7_isWatched_11 (by decide) ?_
      refine lv_goto (tgt := 16) hx hb dX7_isWatched_12 (by decide) ?_
      exact rt_z X hp ⟨Or.inr rfl, h⟩ dX7_isWatched_16
set_option maxRecDepth 100000 in
theorem C_X7_isWatched {E : EE} {l : Launch} {x0 : Int32} {I : II} {Q : Int32 → II → Prop} (h : wp_X7_isWatched x0 I Q) : Met l yX7_isWatched (Cond.code yX7_isWatched cX7_isWatched 1 (some .boolean) :: lwT) rmX7_isWatched (va_Pc [.int x0] (PU E I)) (va_Qi Q (BU E) E.2.2.2.1) 0 0 E.2.2.2.1 :=
  ofWalk [.int x0] (by decide) tw_c_X7_isWatched (Nat.le_of_ble_eq_true rfl) (fun p e s m below meth c ls X hp hl => w_X7_isWatched_0 X _ _ _ _ _ h hp hl)
abbrev rmX7_who : Room := { frames := 6, cells := 0, slots := 0, locals := 135 }
theorem vf_X7_who : VF yX7_who RX7 cX7_who 8 (some .int) 6 := ⟨tw_in_X7, tw_im_X7_who, tw_se_X7_who, tw_c_X7_who, by decide, by decide, by decide +kernel⟩
def wp_X7_who_125 (Q : Int32 → II → Prop) (v0 : Int32) (I : II) : Prop := (wp_X7_fine v0 I (fun r2 I1 => (Q r2 I1)))
set_option maxHeartbeats 4000000 in
set_option maxRecDepth 100000 in
theorem w_X7_who_125 {E : EE} {p : Program} {l : Launch} {e : Env} {s : State} {m : MethodId} {args : Array Value} {below : List Frame} {meth : Method} {c : Code} {Q : Int32 → II → Prop} (X : CX E p s m args meth c cX7_who 8 (some .int) RX7) : ∀ (v0 : Int32) (I : II) (H : Heap) (locs : List Loc) (ls : Array Slot), wp_X7_who_125 Q v0 I → PP E s H locs I → lv_has ls 8 [] → W p l e rmX7_who s m args below meth c H locs 0 0 (MQ below (va_Qi Q (BU E) E.2.2.2.1) args s 0 0 E.2.2.2.1) (F0 m 125 ls [.int v0, .ref (E.2.1 296)]) := by
  obtain ⟨⟨hx, hb, hml, hown, hts⟩, hr, hlk, hK, hST, hN⟩ := id X
  intro v0 I H locs ls h hp hl
  unfold wp_X7_who_125 at h
  refine ki (kV (As := [.int v0]) (rest := []) X hp (C_X7_fine  h) tw_ml_X7_75 vf_X7_fine ⟨rfl, rfl, Nat.le_of_ble_eq_true rfl, Nat.le_of_ble_eq_true rfl⟩ (pr_rcv X hp (k := 296) (by decide) (ob_296 _) (q := (RX7, TX7, 9)) rfl) rfl hl.1 rfl (Nat.le_of_ble_eq_true rfl) dX7_who_125) hp (fun r2 I1 H locs h hp => ?_)
  exact rt_i X hp h dX7_who_128
def wp_X7_who (x1 : Int32) (x2 : Int32) (x3 : Int32) (x4 : Int32) (x5 : Int32) (x6 : Int32) (I : II) (Q : Int32 → II → Prop) : Prop := (wp_X1_hasTeller 0 x1 I (fun r2 I1 => ((r2 = 0 → (Q (-nI 1000001) I1)) ∧ (¬ r2 = 0 → (wp_X7_isChoice x2 I1 (fun r5 I4 => ((r5 = 0 → (Q (-nI 1000001) I4)) ∧ (¬ r5 = 0 → (wp_X1_hasTeller 0 x3 I4 (fun r8 I7 => ((r8 = 0 → (Q (-nI 1000001) I7)) ∧ (¬ r8 = 0 → (wp_X7_isRow x4 I7 (fun r11 I10 => ((r11 = 0 → (Q (-nI 1000001) I10)) ∧ (¬ r11 = 0 → (wp_X7_isWatched x6 I10 (fun r14 I13 => ((¬ r14 = 0 → (wp_X4_findingOf x4 x5 x6 I13 (fun r17 I16 => ((r17 = 0 → (wp_X2_watch x3 x4 x5 x6 I16 (fun I19 => ((¬ x2 = 0 → (wp_X2_caresOf 0 x1 I19 (fun r23 I22 => (wp_X7_who_125 Q r23 I22)))) ∧ (x2 = 0 → (wp_X2_kindsOf 0 x1 I19 (fun r25 I24 => (wp_X7_who_125 Q r25 I24)))))))) ∧ (¬ r17 = 0 → (wp_X7_found r17 I16 (fun r27 I26 => (Q r27 I26)))))))) ∧ (r14 = 0 → (Q (-nI 1000001) I13)))))))))))))))))))))
set_option maxHeartbeats 4000000 in
set_option maxRecDepth 100000 in
theorem w_X7_who_0 {E : EE} {p : Program} {l : Launch} {e : Env} {s : State} {m : MethodId} {args : Array Value} {below : List Frame} {meth : Method} {c : Code} {Q : Int32 → II → Prop} (X : CX E p s m args meth c cX7_who 8 (some .int) RX7) : ∀ (x1 : Int32) (x2 : Int32) (x3 : Int32) (x4 : Int32) (x5 : Int32) (x6 : Int32) (I : II) (H : Heap) (locs : List Loc) (ls : Array Slot), wp_X7_who x1 x2 x3 x4 x5 x6 I Q → PP E s H locs I → lv_has ls 8 [(0, .ref (E.2.1 296)), (1, .int x1), (2, .int x2), (3, .int x3), (4, .int x4), (5, .int x5), (6, .int x6)] → W p l e rmX7_who s m args below meth c H locs 0 0 (MQ below (va_Qi Q (BU E) E.2.2.2.1) args s 0 0 E.2.2.2.1) (F0 m 0 ls []) := by
  obtain ⟨⟨hx, hb, hml, hown, hts⟩, hr, hlk, hK, hST, hN⟩ := id X
  intro x1 x2 x3 x4 x5 x6 I H locs ls h hp hl
  unfold wp_X7_who at h
  refine lv_aload_n hx hb dX7_who_0 rfl (lv_at hl 0 rfl) ?_
  refine f_X7_26 X hp dX7_who_1 ?_
  refine lv_iload_n hx hb dX7_who_4 rfl (lv_at hl 1 rfl) ?_
  refine ki (kV (As := [.int x1]) (rest := []) X hp (C_X1_hasTeller (by decide) h) tw_ml_X7_155 vf_X1_hasTeller ⟨rfl, rfl, Nat.le_of_ble_eq_true rfl, Nat.le_of_ble_eq_true rfl⟩ (pr_rcvb X hp (by decide)) rfl hl.1 rfl (Nat.le_of_ble_eq_true rfl) dX7_who_5) hp (fun r2 I1 H locs h hp => ?_)
  refine lv_if_eq (tgt := 45) hx hb dX7_who_8 (by decide) (fun c3 => ?_) (fun c3 => ?_)
  · have h := h.1 c3
    refine lv_ldc (v := (-nI 1000001)) hx hb hown (hts _ tw_k_X7_66) dX7_who_45 ?_
    exact rt_i X hp h dX7_who_47
  · have h := h.2 c3
    refine lv_iload_n hx hb dX7_who_11 rfl (lv_at hl 2 rfl) ?_
    refine ki (kS (As := [.int x2]) (rest := []) X hp (C_X7_isChoice  h) tw_ml_X7_158 sf_X7_isChoice ⟨rfl, rfl, Nat.le_of_ble_eq_true rfl, Nat.le_of_ble_eq_true rfl⟩ rfl hl.1 rfl (Nat.le_of_ble_eq_true rfl) dX7_who_12) hp (fun r5 I4 H locs h hp => ?_)
    refine lv_if_eq (tgt := 45) hx hb dX7_who_15 (by decide) (fun c6 => ?_) (fun c6 => ?_)
    · have h := h.1 c6
      refine lv_ldc (v := (-nI 1000001)) hx hb hown (hts _ tw_k_X7_66) dX7_who_45 ?_
      exact rt_i X hp h dX7_who_47
    · have h := h.2 c6
      refine lv_aload_n hx hb dX7_who_18 rfl (lv_at hl 0 rfl) ?_
      refine f_X7_26 X hp dX7_who_19 ?_
      refine lv_iload_n hx hb dX7_who_22 rfl (lv_at hl 3 rfl) ?_
      refine ki (kV (As := [.int x3]) (rest := []) X hp (C_X1_hasTeller (by decide) h) tw_ml_X7_155 vf_X1_hasTeller ⟨rfl, rfl, Nat.le_of_ble_eq_true rfl, Nat.le_of_ble_eq_true rfl⟩ (pr_rcvb X hp (by decide)) rfl hl.1 rfl (Nat.le_of_ble_eq_true rfl) dX7_who_23) hp (fun r8 I7 H locs h hp => ?_)
      refine lv_if_eq (tgt := 45) hx hb dX7_who_26 (by decide) (fun c9 => ?_) (fun c9 => ?_)
      · have h := h.1 c9
        refine lv_ldc (v := (-nI 1000001)) hx hb hown (hts _ tw_k_X7_66) dX7_who_45 ?_
        exact rt_i X hp h dX7_who_47
      · have h := h.2 c9
        refine lv_iload hx hb dX7_who_29 (lv_at hl 4 rfl) ?_
        refine ki (kS (As := [.int x4]) (rest := []) X hp (C_X7_isRow  h) tw_ml_X7_62 sf_X7_isRow ⟨rfl, rfl, Nat.le_of_ble_eq_true rfl, Nat.le_of_ble_eq_true rfl⟩ rfl hl.1 rfl (Nat.le_of_ble_eq_true rfl) dX7_who_31) hp (fun r11 I10 H locs h hp => ?_)
        refine lv_if_eq (tgt := 45) hx hb dX7_who_34 (by decide) (fun c12 => ?_) (fun c12 => ?_)
        · have h := h.1 c12
          refine lv_ldc (v := (-nI 1000001)) hx hb hown (hts _ tw_k_X7_66) dX7_who_45 ?_
          exact rt_i X hp h dX7_who_47
        · have h := h.2 c12
          refine lv_iload hx hb dX7_who_37 (lv_at hl 6 rfl) ?_
          refine ki (kS (As := [.int x6]) (rest := []) X hp (C_X7_isWatched  h) tw_ml_X7_281 sf_X7_isWatched ⟨rfl, rfl, Nat.le_of_ble_eq_true rfl, Nat.le_of_ble_eq_true rfl⟩ rfl hl.1 rfl (Nat.le_of_ble_eq_true rfl) dX7_who_39) hp (fun r14 I13 H locs h hp => ?_)
          refine lv_if_ne (tgt := 48) hx hb dX7_who_42 (by decide) (fun c15 => ?_) (fun c15 => ?_)
          · have h := h.1 c15
            refine lv_aload_n hx hb dX7_who_48 rfl (lv_at hl 0 rfl) ?_
            refine f_X7_10 X hp dX7_who_49 ?_
            refine lv_iload hx hb dX7_who_52 (lv_at hl 4 rfl) ?_
            refine lv_iload hx hb dX7_who_54 (lv_at hl 5 rfl) ?_
            refine lv_iload hx hb dX7_who_56 (lv_at hl 6 rfl) ?_
            refine ki (kV (As := [.int x4, .int x5, .int x6]) (rest := []) X hp (C_X4_findingOf  h) tw_ml_X7_78 vf_X4_findingOf ⟨rfl, rfl, Nat.le_of_ble_eq_true rfl, Nat.le_of_ble_eq_true rfl⟩ (pr_rcv X hp (k := 297) (by decide) (ob_297 _) (q := (RX4, TX4, 3)) rfl) rfl hl.1 rfl (Nat.le_of_ble_eq_true rfl) dX7_who_58) hp (fun r17 I16 H locs h hp => ?_)
            refine lv_istore (lv' := [(7, .int r17), (0, .ref (E.2.1 296)), (1, .int x1), (2, .int x2), (3, .int x3), (4, .int x4), (5, .int x5), (6, .int x6)]) hx hb dX7_who_61 hl (by decide) rfl (fun ls hl => ?_)
            refine lv_iload hx hb dX7_who_63 (lv_at hl 0 rfl) ?_
            refine lv_if_eq (tgt := 75) hx hb dX7_who_65 (by decide) (fun c18 => ?_) (fun c18 => ?_)
            · have h := h.1 c18
              refine lv_aload_n hx hb dX7_who_75 rfl (lv_at hl 1 rfl) ?_
              refine f_X7_44 X hp dX7_who_76 ?_
              refine lv_iload_n hx hb dX7_who_79 rfl (lv_at hl 4 rfl) ?_
              refine lv_aload_n hx hb dX7_who_80 rfl (lv_at hl 1 rfl) ?_
              refine f_X7_10 X hp dX7_who_81 ?_
              refine lv_iload hx hb dX7_who_84 (lv_at hl 5 rfl) ?_
              refine lv_iload hx hb dX7_who_86 (lv_at hl 6 rfl) ?_
              refine lv_iload hx hb dX7_who_88 (lv_at hl 7 rfl) ?_
              refine kv (kV (As := [.int x3, .ref (E.2.1 297), .int x4, .int x5, .int x6]) (rest := []) X hp (C_X2_watch  h) tw_ml_X7_284 vf_X2_watch ⟨rfl, rfl, Nat.le_of_ble_eq_true rfl, Nat.le_of_ble_eq_true rfl⟩ (pr_rcv X hp (k := 306) (by decide) (ob_306 _) (q := (RX2, TX2, 4)) rfl) rfl hl.1 rfl (Nat.le_of_ble_eq_true rfl) dX7_who_90) hp (fun I19 H locs h hp => ?_)
              refine lv_aload_n hx hb dX7_who_93 rfl (lv_at hl 1 rfl) ?_
              refine lv_iload_n hx hb dX7_who_94 rfl (lv_at hl 3 rfl) ?_
              refine lv_if_ne (tgt := 113) hx hb dX7_who_95 (by decide) (fun c21 => ?_) (fun c21 => ?_)
              · have h := h.1 c21
                refine lv_aload_n hx hb dX7_who_113 rfl (lv_at hl 1 rfl) ?_
                refine f_X7_44 X hp dX7_who_114 ?_
                refine lv_aload_n hx hb dX7_who_117 rfl (lv_at hl 1 rfl) ?_
                refine f_X7_26 X hp dX7_who_118 ?_
                refine lv_iload_n hx hb dX7_who_121 rfl (lv_at hl 2 rfl) ?_
                refine ki (kV (As := [.ref (E.2.1 (8 * 0)), .int x1]) (rest := [.ref (E.2.1 296)]) X hp (C_X2_caresOf (by decide) h) tw_ml_X7_291 vf_X2_caresOf ⟨rfl, rfl, Nat.le_of_ble_eq_true rfl, Nat.le_of_ble_eq_true rfl⟩ (pr_rcv X hp (k := 306) (by decide) (ob_306 _) (q := (RX2, TX2, 4)) rfl) rfl hl.1 rfl (Nat.le_of_ble_eq_true rfl) dX7_who_122) hp (fun r23 I22 H locs h hp => ?_)
                exact w_X7_who_125 X  _ _ _ _ _ h hp (lv_sub hl [] rfl)
              · have h := h.2 c21
                refine lv_aload_n hx hb dX7_who_98 rfl (lv_at hl 1 rfl) ?_
                refine f_X7_44 X hp dX7_who_99 ?_
                refine lv_aload_n hx hb dX7_who_102 rfl (lv_at hl 1 rfl) ?_
                refine f_X7_26 X hp dX7_who_103 ?_
                refine lv_iload_n hx hb dX7_who_106 rfl (lv_at hl 2 rfl) ?_
                refine ki (kV (As := [.ref (E.2.1 (8 * 0)), .int x1]) (rest := [.ref (E.2.1 296)]) X hp (C_X2_kindsOf (by decide) h) tw_ml_X7_288 vf_X2_kindsOf ⟨rfl, rfl, Nat.le_of_ble_eq_true rfl, Nat.le_of_ble_eq_true rfl⟩ (pr_rcv X hp (k := 306) (by decide) (ob_306 _) (q := (RX2, TX2, 4)) rfl) rfl hl.1 rfl (Nat.le_of_ble_eq_true rfl) dX7_who_107) hp (fun r25 I24 H locs h hp => ?_)
                refine lv_goto (tgt := 125) hx hb dX7_who_110 (by decide) ?_
                exact w_X7_who_125 X  _ _ _ _ _ h hp (lv_sub hl [] rfl)
            · have h := h.2 c18
              refine lv_aload_n hx hb dX7_who_68 rfl (lv_at hl 1 rfl) ?_
              refine lv_iload hx hb dX7_who_69 (lv_at hl 0 rfl) ?_
              refine ki (kV (As := [.int r17]) (rest := []) X hp (C_X7_found  h) tw_ml_X7_67 vf_X7_found ⟨rfl, rfl, Nat.le_of_ble_eq_true rfl, Nat.le_of_ble_eq_true rfl⟩ (pr_rcv X hp (k := 296) (by decide) (ob_296 _) (q := (RX7, TX7, 9)) rfl) rfl hl.1 rfl (Nat.le_of_ble_eq_true rfl) dX7_who_71) hp (fun r27 I26 H locs h hp => ?_)
              exact rt_i X hp h dX7_who_74
          · have h := h.2 c15
            refine lv_ldc (v := (-nI 1000001)) hx hb hown (hts _ tw_k_X7_66) dX7_who_45 ?_
            exact rt_i X hp h dX7_who_47
set_option maxRecDepth 100000 in
theorem C_X7_who {E : EE} {l : Launch} {x1 : Int32} {x2 : Int32} {x3 : Int32} {x4 : Int32} {x5 : Int32} {x6 : Int32} {I : II} {Q : Int32 → II → Prop} (h : wp_X7_who x1 x2 x3 x4 x5 x6 I Q) : Met l yX7_who (Cond.code yX7_who cX7_who 8 (some .int) :: lwT) rmX7_who (va_Pc [.ref (E.2.1 296), .int x1, .int x2, .int x3, .int x4, .int x5, .int x6] (PU E I)) (va_Qi Q (BU E) E.2.2.2.1) 0 0 E.2.2.2.1 :=
  ofWalk [.ref (E.2.1 296), .int x1, .int x2, .int x3, .int x4, .int x5, .int x6] (by decide) tw_c_X7_who (Nat.le_of_ble_eq_true rfl) (fun p e s m below meth c ls X hp hl => w_X7_who_0 X _ _ _ _ _ _ _ _ _ _ h hp hl)
abbrev rmX7_sums : Room := { frames := 6, cells := 0, slots := 0, locals := 135 }
theorem vf_X7_sums : VF yX7_sums RX7 cX7_sums 6 (some .int) 4 := ⟨tw_in_X7, tw_im_X7_sums, tw_se_X7_sums, tw_c_X7_sums, by decide, by decide, by decide +kernel⟩
def wp_X7_sums (x1 : Int32) (x2 : Int32) (x3 : Int32) (x4 : Int32) (I : II) (Q : Int32 → II → Prop) : Prop := (wp_X1_hasTeller 0 x1 I (fun r2 I1 => ((r2 = 0 → (Q (-nI 1000001) I1)) ∧ (¬ r2 = 0 → (wp_X7_isRow x2 I1 (fun r5 I4 => ((r5 = 0 → (Q (-nI 1000001) I4)) ∧ (¬ r5 = 0 → (wp_X7_isWatched x4 I4 (fun r8 I7 => ((¬ r8 = 0 → ((¬ (I7 (8 * 0) 7) = 0 → (wp_X4_findingOf x2 x3 x4 I7 (fun r12 I11 => ((r12 = 0 → (wp_X2_watch x1 x2 x3 x4 I11 (fun I14 => (wp_X2_sumsOfFirst 0 I14 (fun r17 I16 => (wp_X7_fine r17 I16 (fun r19 I18 => (Q r19 I18)))))))) ∧ (¬ r12 = 0 → (wp_X7_found r12 I11 (fun r21 I20 => (Q r21 I20)))))))) ∧ ((I7 (8 * 0) 7) = 0 → (Q (-nI 1000002) I7)))) ∧ (r8 = 0 → (Q (-nI 1000001) I7)))))))))))))
set_option maxHeartbeats 4000000 in
set_option maxRecDepth 100000 in
theorem w_X7_sums_0 {E : EE} {p : Program} {l : Launch} {e : Env} {s : State} {m : MethodId} {args : Array Value} {below : List Frame} {meth : Method} {c : Code} {Q : Int32 → II → Prop} (X : CX E p s m args meth c cX7_sums 6 (some .int) RX7) : ∀ (x1 : Int32) (x2 : Int32) (x3 : Int32) (x4 : Int32) (I : II) (H : Heap) (locs : List Loc) (ls : Array Slot), wp_X7_sums x1 x2 x3 x4 I Q → PP E s H locs I → lv_has ls 6 [(0, .ref (E.2.1 296)), (1, .int x1), (2, .int x2), (3, .int x3), (4, .int x4)] → W p l e rmX7_sums s m args below meth c H locs 0 0 (MQ below (va_Qi Q (BU E) E.2.2.2.1) args s 0 0 E.2.2.2.1) (F0 m 0 ls []) := by
  obtain ⟨⟨hx, hb, hml, hown, hts⟩, hr, hlk, hK, hST, hN⟩ := id X
  intro x1 x2 x3 x4 I H locs ls h hp hl
  unfold wp_X7_sums at h
  refine lv_aload_n hx hb dX7_sums_0 rfl (lv_at hl 0 rfl) ?_
  refine f_X7_26 X hp dX7_sums_1 ?_
  refine lv_iload_n hx hb dX7_sums_4 rfl (lv_at hl 1 rfl) ?_
  refine ki (kV (As := [.int x1]) (rest := []) X hp (C_X1_hasTeller (by decide) h) tw_ml_X7_155 vf_X1_hasTeller ⟨rfl, rfl, Nat.le_of_ble_eq_true rfl, Nat.le_of_ble_eq_true rfl⟩ (pr_rcvb X hp (by decide)) rfl hl.1 rfl (Nat.le_of_ble_eq_true rfl) dX7_sums_5) hp (fun r2 I1 H locs h hp => ?_)
  refine lv_if_eq (tgt := 26) hx hb dX7_sums_8 (by decide) (fun c3 => ?_) (fun c3 => ?_)
  · have h := h.1 c3
    refine lv_ldc (v := (-nI 1000001)) hx hb hown (hts _ tw_k_X7_66) dX7_sums_26 ?_
    exact rt_i X hp h dX7_sums_28
  · have h := h.2 c3
    refine lv_iload_n hx hb dX7_sums_11 rfl (lv_at hl 2 rfl) ?_
    refine ki (kS (As := [.int x2]) (rest := []) X hp (C_X7_isRow  h) tw_ml_X7_62 sf_X7_isRow ⟨rfl, rfl, Nat.le_of_ble_eq_true rfl, Nat.le_of_ble_eq_true rfl⟩ rfl hl.1 rfl (Nat.le_of_ble_eq_true rfl) dX7_sums_12) hp (fun r5 I4 H locs h hp => ?_)
    refine lv_if_eq (tgt := 26) hx hb dX7_sums_15 (by decide) (fun c6 => ?_) (fun c6 => ?_)
    · have h := h.1 c6
      refine lv_ldc (v := (-nI 1000001)) hx hb hown (hts _ tw_k_X7_66) dX7_sums_26 ?_
      exact rt_i X hp h dX7_sums_28
    · have h := h.2 c6
      refine lv_iload hx hb dX7_sums_18 (lv_at hl 4 rfl) ?_
      refine ki (kS (As := [.int x4]) (rest := []) X hp (C_X7_isWatched  h) tw_ml_X7_281 sf_X7_isWatched ⟨rfl, rfl, Nat.le_of_ble_eq_true rfl, Nat.le_of_ble_eq_true rfl⟩ rfl hl.1 rfl (Nat.le_of_ble_eq_true rfl) dX7_sums_20) hp (fun r8 I7 H locs h hp => ?_)
      refine lv_if_ne (tgt := 29) hx hb dX7_sums_23 (by decide) (fun c9 => ?_) (fun c9 => ?_)
      · have h := h.1 c9
        refine lv_aload_n hx hb dX7_sums_29 rfl (lv_at hl 0 rfl) ?_
        refine f_X7_26 X hp dX7_sums_30 ?_
        refine f_X7_152 X hp (by decide) dX7_sums_33 ?_
        refine lv_if_ne (tgt := 42) hx hb dX7_sums_36 (by decide) (fun c10 => ?_) (fun c10 => ?_)
        · have h := h.1 c10
          refine lv_aload_n hx hb dX7_sums_42 rfl (lv_at hl 0 rfl) ?_
          refine f_X7_10 X hp dX7_sums_43 ?_
          refine lv_iload_n hx hb dX7_sums_46 rfl (lv_at hl 2 rfl) ?_
          refine lv_iload_n hx hb dX7_sums_47 rfl (lv_at hl 3 rfl) ?_
          refine lv_iload hx hb dX7_sums_48 (lv_at hl 4 rfl) ?_
          refine ki (kV (As := [.int x2, .int x3, .int x4]) (rest := []) X hp (C_X4_findingOf  h) tw_ml_X7_78 vf_X4_findingOf ⟨rfl, rfl, Nat.le_of_ble_eq_true rfl, Nat.le_of_ble_eq_true rfl⟩ (pr_rcv X hp (k := 297) (by decide) (ob_297 _) (q := (RX4, TX4, 3)) rfl) rfl hl.1 rfl (Nat.le_of_ble_eq_true rfl) dX7_sums_50) hp (fun r12 I11 H locs h hp => ?_)
          refine lv_istore (lv' := [(5, .int r12), (0, .ref (E.2.1 296)), (1, .int x1), (2, .int x2), (3, .int x3), (4, .int x4)]) hx hb dX7_sums_53 hl (by decide) rfl (fun ls hl => ?_)
          refine lv_iload hx hb dX7_sums_55 (lv_at hl 0 rfl) ?_
          refine lv_if_eq (tgt := 67) hx hb dX7_sums_57 (by decide) (fun c13 => ?_) (fun c13 => ?_)
          · have h := h.1 c13
            refine lv_aload_n hx hb dX7_sums_67 rfl (lv_at hl 1 rfl) ?_
            refine f_X7_44 X hp dX7_sums_68 ?_
            refine lv_iload_n hx hb dX7_sums_71 rfl (lv_at hl 2 rfl) ?_
            refine lv_aload_n hx hb dX7_sums_72 rfl (lv_at hl 1 rfl) ?_
            refine f_X7_10 X hp dX7_sums_73 ?_
            refine lv_iload_n hx hb dX7_sums_76 rfl (lv_at hl 3 rfl) ?_
            refine lv_iload_n hx hb dX7_sums_77 rfl (lv_at hl 4 rfl) ?_
            refine lv_iload hx hb dX7_sums_78 (lv_at hl 5 rfl) ?_
            refine kv (kV (As := [.int x1, .ref (E.2.1 297), .int x2, .int x3, .int x4]) (rest := []) X hp (C_X2_watch  h) tw_ml_X7_284 vf_X2_watch ⟨rfl, rfl, Nat.le_of_ble_eq_true rfl, Nat.le_of_ble_eq_true rfl⟩ (pr_rcv X hp (k := 306) (by decide) (ob_306 _) (q := (RX2, TX2, 4)) rfl) rfl hl.1 rfl (Nat.le_of_ble_eq_true rfl) dX7_sums_80) hp (fun I14 H locs h hp => ?_)
            refine lv_aload_n hx hb dX7_sums_83 rfl (lv_at hl 1 rfl) ?_
            refine lv_aload_n hx hb dX7_sums_84 rfl (lv_at hl 1 rfl) ?_
            refine f_X7_44 X hp dX7_sums_85 ?_
            refine lv_aload_n hx hb dX7_sums_88 rfl (lv_at hl 1 rfl) ?_
            refine f_X7_26 X hp dX7_sums_89 ?_
            refine ki (kV (As := [.ref (E.2.1 (8 * 0))]) (rest := [.ref (E.2.1 296)]) X hp (C_X2_sumsOfFirst (by decide) h) tw_ml_X7_294 vf_X2_sumsOfFirst ⟨rfl, rfl, Nat.le_of_ble_eq_true rfl, Nat.le_of_ble_eq_true rfl⟩ (pr_rcv X hp (k := 306) (by decide) (ob_306 _) (q := (RX2, TX2, 4)) rfl) rfl hl.1 rfl (Nat.le_of_ble_eq_true rfl) dX7_sums_92) hp (fun r17 I16 H locs h hp => ?_)
            refine ki (kV (As := [.int r17]) (rest := []) X hp (C_X7_fine  h) tw_ml_X7_75 vf_X7_fine ⟨rfl, rfl, Nat.le_of_ble_eq_true rfl, Nat.le_of_ble_eq_true rfl⟩ (pr_rcv X hp (k := 296) (by decide) (ob_296 _) (q := (RX7, TX7, 9)) rfl) rfl hl.1 rfl (Nat.le_of_ble_eq_true rfl) dX7_sums_95) hp (fun r19 I18 H locs h hp => ?_)
            exact rt_i X hp h dX7_sums_98
          · have h := h.2 c13
            refine lv_aload_n hx hb dX7_sums_60 rfl (lv_at hl 1 rfl) ?_
            refine lv_iload hx hb dX7_sums_61 (lv_at hl 0 rfl) ?_
            refine ki (kV (As := [.int r12]) (rest := []) X hp (C_X7_found  h) tw_ml_X7_67 vf_X7_found ⟨rfl, rfl, Nat.le_of_ble_eq_true rfl, Nat.le_of_ble_eq_true rfl⟩ (pr_rcv X hp (k := 296) (by decide) (ob_296 _) (q := (RX7, TX7, 9)) rfl) rfl hl.1 rfl (Nat.le_of_ble_eq_true rfl) dX7_sums_63) hp (fun r21 I20 H locs h hp => ?_)
            exact rt_i X hp h dX7_sums_66
        · have h := h.2 c10
          refine lv_ldc (v := (-nI 1000002)) hx hb hown (hts _ tw_k_X7_132) dX7_sums_39 ?_
          exact rt_i X hp h dX7_sums_41
      · have h := h.2 c9
        refine lv_ldc (v := (-nI 1000001)) hx hb hown (hts _ tw_k_X7_66) dX7_sums_26 ?_
        exact rt_i X hp h dX7_sums_28
set_option maxRecDepth 100000 in
theorem C_X7_sums {E : EE} {l : Launch} {x1 : Int32} {x2 : Int32} {x3 : Int32} {x4 : Int32} {I : II} {Q : Int32 → II → Prop} (h : wp_X7_sums x1 x2 x3 x4 I Q) : Met l yX7_sums (Cond.code yX7_sums cX7_sums 6 (some .int) :: lwT) rmX7_sums (va_Pc [.ref (E.2.1 296), .int x1, .int x2, .int x3, .int x4] (PU E I)) (va_Qi Q (BU E) E.2.2.2.1) 0 0 E.2.2.2.1 :=
  ofWalk [.ref (E.2.1 296), .int x1, .int x2, .int x3, .int x4] (by decide) tw_c_X7_sums (Nat.le_of_ble_eq_true rfl) (fun p e s m below meth c ls X hp hl => w_X7_sums_0 X _ _ _ _ _ _ _ _ h hp hl)
abbrev rmX7_stayed : Room := { frames := 6, cells := 0, slots := 0, locals := 135 }
theorem vf_X7_stayed : VF yX7_stayed RX7 cX7_stayed 6 (some .int) 4 := ⟨tw_in_X7, tw_im_X7_stayed, tw_se_X7_stayed, tw_c_X7_stayed, by decide, by decide, by decide +kernel⟩
def wp_X7_stayed (x1 : Int32) (x2 : Int32) (x3 : Int32) (x4 : Int32) (I : II) (Q : Int32 → II → Prop) : Prop := (wp_X1_hasTeller 0 x1 I (fun r2 I1 => ((r2 = 0 → (Q (-nI 1000001) I1)) ∧ (¬ r2 = 0 → (wp_X7_isRow x2 I1 (fun r5 I4 => ((r5 = 0 → (Q (-nI 1000001) I4)) ∧ (¬ r5 = 0 → (wp_X7_isWatched x4 I4 (fun r8 I7 => ((¬ r8 = 0 → (wp_X4_findingOf x2 x3 x4 I7 (fun r11 I10 => ((r11 = 0 → (wp_X2_watch x1 x2 x3 x4 I10 (fun I13 => (wp_X2_absentPapers 0 I13 (fun r16 I15 => (wp_X7_fine r16 I15 (fun r18 I17 => (Q r18 I17)))))))) ∧ (¬ r11 = 0 → (wp_X7_found r11 I10 (fun r20 I19 => (Q r20 I19)))))))) ∧ (r8 = 0 → (Q (-nI 1000001) I7)))))))))))))
set_option maxHeartbeats 4000000 in
set_option maxRecDepth 100000 in
theorem w_X7_stayed_0 {E : EE} {p : Program} {l : Launch} {e : Env} {s : State} {m : MethodId} {args : Array Value} {below : List Frame} {meth : Method} {c : Code} {Q : Int32 → II → Prop} (X : CX E p s m args meth c cX7_stayed 6 (some .int) RX7) : ∀ (x1 : Int32) (x2 : Int32) (x3 : Int32) (x4 : Int32) (I : II) (H : Heap) (locs : List Loc) (ls : Array Slot), wp_X7_stayed x1 x2 x3 x4 I Q → PP E s H locs I → lv_has ls 6 [(0, .ref (E.2.1 296)), (1, .int x1), (2, .int x2), (3, .int x3), (4, .int x4)] → W p l e rmX7_stayed s m args below meth c H locs 0 0 (MQ below (va_Qi Q (BU E) E.2.2.2.1) args s 0 0 E.2.2.2.1) (F0 m 0 ls []) := by
  obtain ⟨⟨hx, hb, hml, hown, hts⟩, hr, hlk, hK, hST, hN⟩ := id X
  intro x1 x2 x3 x4 I H locs ls h hp hl
  unfold wp_X7_stayed at h
  refine lv_aload_n hx hb dX7_stayed_0 rfl (lv_at hl 0 rfl) ?_
  refine f_X7_26 X hp dX7_stayed_1 ?_
  refine lv_iload_n hx hb dX7_stayed_4 rfl (lv_at hl 1 rfl) ?_
  refine ki (kV (As := [.int x1]) (rest := []) X hp (C_X1_hasTeller (by decide) h) tw_ml_X7_155 vf_X1_hasTeller ⟨rfl, rfl, Nat.le_of_ble_eq_true rfl, Nat.le_of_ble_eq_true rfl⟩ (pr_rcvb X hp (by decide)) rfl hl.1 rfl (Nat.le_of_ble_eq_true rfl) dX7_stayed_5) hp (fun r2 I1 H locs h hp => ?_)
  refine lv_if_eq (tgt := 26) hx hb dX7_stayed_8 (by decide) (fun c3 => ?_) (fun c3 => ?_)
  · have h := h.1 c3
    refine lv_ldc (v := (-nI 1000001)) hx hb hown (hts _ tw_k_X7_66) dX7_stayed_26 ?_
    exact rt_i X hp h dX7_stayed_28
  · have h := h.2 c3
    refine lv_iload_n hx hb dX7_stayed_11 rfl (lv_at hl 2 rfl) ?_
    refine ki (kS (As := [.int x2]) (rest := []) X hp (C_X7_isRow  h) tw_ml_X7_62 sf_X7_isRow ⟨rfl, rfl, Nat.le_of_ble_eq_true rfl, Nat.le_of_ble_eq_true rfl⟩ rfl hl.1 rfl (Nat.le_of_ble_eq_true rfl) dX7_stayed_12) hp (fun r5 I4 H locs h hp => ?_)
    refine lv_if_eq (tgt := 26) hx hb dX7_stayed_15 (by decide) (fun c6 => ?_) (fun c6 => ?_)
    · have h := h.1 c6
      refine lv_ldc (v := (-nI 1000001)) hx hb hown (hts _ tw_k_X7_66) dX7_stayed_26 ?_
      exact rt_i X hp h dX7_stayed_28
    · have h := h.2 c6
      refine lv_iload hx hb dX7_stayed_18 (lv_at hl 4 rfl) ?_
      refine ki (kS (As := [.int x4]) (rest := []) X hp (C_X7_isWatched  h) tw_ml_X7_281 sf_X7_isWatched ⟨rfl, rfl, Nat.le_of_ble_eq_true rfl, Nat.le_of_ble_eq_true rfl⟩ rfl hl.1 rfl (Nat.le_of_ble_eq_true rfl) dX7_stayed_20) hp (fun r8 I7 H locs h hp => ?_)
      refine lv_if_ne (tgt := 29) hx hb dX7_stayed_23 (by decide) (fun c9 => ?_) (fun c9 => ?_)
      · have h := h.1 c9
        refine lv_aload_n hx hb dX7_stayed_29 rfl (lv_at hl 0 rfl) ?_
        refine f_X7_10 X hp dX7_stayed_30 ?_
        refine lv_iload_n hx hb dX7_stayed_33 rfl (lv_at hl 2 rfl) ?_
        refine lv_iload_n hx hb dX7_stayed_34 rfl (lv_at hl 3 rfl) ?_
        refine lv_iload hx hb dX7_stayed_35 (lv_at hl 4 rfl) ?_
        refine ki (kV (As := [.int x2, .int x3, .int x4]) (rest := []) X hp (C_X4_findingOf  h) tw_ml_X7_78 vf_X4_findingOf ⟨rfl, rfl, Nat.le_of_ble_eq_true rfl, Nat.le_of_ble_eq_true rfl⟩ (pr_rcv X hp (k := 297) (by decide) (ob_297 _) (q := (RX4, TX4, 3)) rfl) rfl hl.1 rfl (Nat.le_of_ble_eq_true rfl) dX7_stayed_37) hp (fun r11 I10 H locs h hp => ?_)
        refine lv_istore (lv' := [(5, .int r11), (0, .ref (E.2.1 296)), (1, .int x1), (2, .int x2), (3, .int x3), (4, .int x4)]) hx hb dX7_stayed_40 hl (by decide) rfl (fun ls hl => ?_)
        refine lv_iload hx hb dX7_stayed_42 (lv_at hl 0 rfl) ?_
        refine lv_if_eq (tgt := 54) hx hb dX7_stayed_44 (by decide) (fun c12 => ?_) (fun c12 => ?_)
        · have h := h.1 c12
          refine lv_aload_n hx hb dX7_stayed_54 rfl (lv_at hl 1 rfl) ?_
          refine f_X7_44 X hp dX7_stayed_55 ?_
          refine lv_iload_n hx hb dX7_stayed_58 rfl (lv_at hl 2 rfl) ?_
          refine lv_aload_n hx hb dX7_stayed_59 rfl (lv_at hl 1 rfl) ?_
          refine f_X7_10 X hp dX7_stayed_60 ?_
          refine lv_iload_n hx hb dX7_stayed_63 rfl (lv_at hl 3 rfl) ?_
          refine lv_iload_n hx hb dX7_stayed_64 rfl (lv_at hl 4 rfl) ?_
          refine lv_iload hx hb dX7_stayed_65 (lv_at hl 5 rfl) ?_
          refine kv (kV (As := [.int x1, .ref (E.2.1 297), .int x2, .int x3, .int x4]) (rest := []) X hp (C_X2_watch  h) tw_ml_X7_284 vf_X2_watch ⟨rfl, rfl, Nat.le_of_ble_eq_true rfl, Nat.le_of_ble_eq_true rfl⟩ (pr_rcv X hp (k := 306) (by decide) (ob_306 _) (q := (RX2, TX2, 4)) rfl) rfl hl.1 rfl (Nat.le_of_ble_eq_true rfl) dX7_stayed_67) hp (fun I13 H locs h hp => ?_)
          refine lv_aload_n hx hb dX7_stayed_70 rfl (lv_at hl 1 rfl) ?_
          refine lv_aload_n hx hb dX7_stayed_71 rfl (lv_at hl 1 rfl) ?_
          refine f_X7_44 X hp dX7_stayed_72 ?_
          refine lv_aload_n hx hb dX7_stayed_75 rfl (lv_at hl 1 rfl) ?_
          refine f_X7_26 X hp dX7_stayed_76 ?_
          refine ki (kV (As := [.ref (E.2.1 (8 * 0))]) (rest := [.ref (E.2.1 296)]) X hp (C_X2_absentPapers (by decide) h) tw_ml_X7_297 vf_X2_absentPapers ⟨rfl, rfl, Nat.le_of_ble_eq_true rfl, Nat.le_of_ble_eq_true rfl⟩ (pr_rcv X hp (k := 306) (by decide) (ob_306 _) (q := (RX2, TX2, 4)) rfl) rfl hl.1 rfl (Nat.le_of_ble_eq_true rfl) dX7_stayed_79) hp (fun r16 I15 H locs h hp => ?_)
          refine ki (kV (As := [.int r16]) (rest := []) X hp (C_X7_fine  h) tw_ml_X7_75 vf_X7_fine ⟨rfl, rfl, Nat.le_of_ble_eq_true rfl, Nat.le_of_ble_eq_true rfl⟩ (pr_rcv X hp (k := 296) (by decide) (ob_296 _) (q := (RX7, TX7, 9)) rfl) rfl hl.1 rfl (Nat.le_of_ble_eq_true rfl) dX7_stayed_82) hp (fun r18 I17 H locs h hp => ?_)
          exact rt_i X hp h dX7_stayed_85
        · have h := h.2 c12
          refine lv_aload_n hx hb dX7_stayed_47 rfl (lv_at hl 1 rfl) ?_
          refine lv_iload hx hb dX7_stayed_48 (lv_at hl 0 rfl) ?_
          refine ki (kV (As := [.int r11]) (rest := []) X hp (C_X7_found  h) tw_ml_X7_67 vf_X7_found ⟨rfl, rfl, Nat.le_of_ble_eq_true rfl, Nat.le_of_ble_eq_true rfl⟩ (pr_rcv X hp (k := 296) (by decide) (ob_296 _) (q := (RX7, TX7, 9)) rfl) rfl hl.1 rfl (Nat.le_of_ble_eq_true rfl) dX7_stayed_50) hp (fun r20 I19 H locs h hp => ?_)
          exact rt_i X hp h dX7_stayed_53
      · have h := h.2 c9
        refine lv_ldc (v := (-nI 1000001)) hx hb hown (hts _ tw_k_X7_66) dX7_stayed_26 ?_
        exact rt_i X hp h dX7_stayed_28
set_option maxRecDepth 100000 in
theorem C_X7_stayed {E : EE} {l : Launch} {x1 : Int32} {x2 : Int32} {x3 : Int32} {x4 : Int32} {I : II} {Q : Int32 → II → Prop} (h : wp_X7_stayed x1 x2 x3 x4 I Q) : Met l yX7_stayed (Cond.code yX7_stayed cX7_stayed 6 (some .int) :: lwT) rmX7_stayed (va_Pc [.ref (E.2.1 296), .int x1, .int x2, .int x3, .int x4] (PU E I)) (va_Qi Q (BU E) E.2.2.2.1) 0 0 E.2.2.2.1 :=
  ofWalk [.ref (E.2.1 296), .int x1, .int x2, .int x3, .int x4] (by decide) tw_c_X7_stayed (Nat.le_of_ble_eq_true rfl) (fun p e s m below meth c ls X hp hl => w_X7_stayed_0 X _ _ _ _ _ _ _ _ h hp hl)
abbrev rmX7_greatestDivisor : Room := { frames := 0, cells := 0, slots := 0, locals := 0 }
theorem sf_X7_greatestDivisor : SF yX7_greatestDivisor cX7_greatestDivisor 11 (some .long) 2 := ⟨tw_in_X7, tw_st_X7_greatestDivisor, tw_c_X7_greatestDivisor, by decide, by decide, by decide +kernel⟩
def wp_X7_greatestDivisor_9 (Q : Int64 → II → Prop) (k44 : Int64 → II → Prop) : Nat → Int64 → Int64 → Int32 → II → Prop
  | 0, _, _, _, _ => False
  | n + 1, x4, x6, x8, I => (((nI 100) ≤ x8 → (k44 x4 I)) ∧ (¬ (nI 100) ≤ x8 → (((lg_cmp x6 (lN 0)) = 0 → (k44 x4 I)) ∧ (¬ (lg_cmp x6 (lN 0)) = 0 → (¬ x6 = 0 ∧ (wp_X7_greatestDivisor_9 Q k44 n x6 (x4 - x4 / x6 * x6) (x8 + (nI 1)) I))))))
set_option maxHeartbeats 4000000 in
set_option maxRecDepth 100000 in
theorem w_X7_greatestDivisor_9 {E : EE} {p : Program} {l : Launch} {e : Env} {s : State} {m : MethodId} {args : Array Value} {below : List Frame} {meth : Method} {c : Code} {Q : Int64 → II → Prop} {k44 : Int64 → II → Prop} (X : CX E p s m args meth c cX7_greatestDivisor 11 (some .long) RX7) (K44 : ∀ (x4 : Int64) (I : II) (H : Heap) (locs : List Loc) (ls : Array Slot), k44 x4 I → PP E s H locs I → lv_has ls 11 [(4, .long x4)] → W p l e rmX7_greatestDivisor s m args below meth c H locs 0 0 (MQ below (va_Ql Q (BU E) E.2.2.2.1) args s 0 0 E.2.2.2.1) (F0 m 44 ls [])) : ∀ (n : Nat) (x4 : Int64) (x6 : Int64) (x8 : Int32) (I : II) (H : Heap) (locs : List Loc) (ls : Array Slot), wp_X7_greatestDivisor_9 Q k44 n x4 x6 x8 I → PP E s H locs I → lv_has ls 11 [(4, .long x4), (6, .long x6), (8, .int x8)] → W p l e rmX7_greatestDivisor s m args below meth c H locs 0 0 (MQ below (va_Ql Q (BU E) E.2.2.2.1) args s 0 0 E.2.2.2.1) (F0 m 9 ls []) := by
  obtain ⟨⟨hx, hb, hml, hown, hts⟩, hr, hlk, hK, hST, hN⟩ := id X
  intro n
  induction n with
  | zero =>
    intro x4 x6 x8 I H locs ls h hp hl
    exact False.elim h
  | succ n ih =>
    intro x4 x6 x8 I H locs ls h hp hl
    rw [wp_X7_greatestDivisor_9.eq_2] at h
    refine lv_iload hx hb dX7_greatestDivisor_9 (lv_at hl 2 rfl) ?_
    refine lv_bipush (v := (nI 100)) hx hb dX7_greatestDivisor_11 (by decide) ?_
    refine lv_icmp_ge (tgt := 44) hx hb dX7_greatestDivisor_13 (by decide) (fun c1 => ?_) (fun c1 => ?_)
    · have h := h.1 c1
      exact K44 _ _ _ _ _ h hp (lv_sub hl [0] rfl)
    · have h := h.2 c1
      refine lv_lload hx hb dX7_greatestDivisor_16 (lv_at hl 1 rfl) ?_
      refine lv_lconst (v := (lN 0)) hx hb dX7_greatestDivisor_18 (by decide) ?_
      refine W.lcmp hx hb dX7_greatestDivisor_19 ?_
      refine lv_if_eq (tgt := 44) hx hb dX7_greatestDivisor_20 (by decide) (fun c2 => ?_) (fun c2 => ?_)
      · have h := h.1 c2
        exact K44 _ _ _ _ _ h hp (lv_sub hl [0] rfl)
      · have h := h.2 c2
        refine lv_lload hx hb dX7_greatestDivisor_23 (lv_at hl 0 rfl) ?_
        refine lv_lload hx hb dX7_greatestDivisor_25 (lv_at hl 1 rfl) ?_
        have hz3 := h.1
        have h := h.2
        refine lv_lrem hx hb dX7_greatestDivisor_27 hz3 ?_
        refine lv_lstore (lv' := [(9, .long (x4 - x4 / x6 * x6)), (4, .long x4), (6, .long x6), (8, .int x8)]) hx hb dX7_greatestDivisor_28 hl (by decide) rfl (fun ls hl => ?_)
        refine lv_lload hx hb dX7_greatestDivisor_30 (lv_at hl 2 rfl) ?_
        refine lv_lstore (lv' := [(4, .long x6), (9, .long (x4 - x4 / x6 * x6)), (6, .long x6), (8, .int x8)]) hx hb dX7_greatestDivisor_32 hl (by decide) rfl (fun ls hl => ?_)
        refine lv_lload hx hb dX7_greatestDivisor_34 (lv_at hl 1 rfl) ?_
        refine lv_lstore (lv' := [(6, .long (x4 - x4 / x6 * x6)), (4, .long x6), (9, .long (x4 - x4 / x6 * x6)), (8, .int x8)]) hx hb dX7_greatestDivisor_36 hl (by decide) rfl (fun ls hl => ?_)
        refine lv_iinc (v := (x8 + (nI 1))) (lv' := [(8, .int (x8 + (nI 1))), (6, .long (x4 - x4 / x6 * x6)), (4, .long x6), (9, .long (x4 - x4 / x6 * x6))]) hx hb dX7_greatestDivisor_38 hl (k := 3) rfl rfl (by decide) rfl (fun ls hl => ?_)
        refine lv_goto (tgt := 9) hx hb dX7_greatestDivisor_41 (by decide) ?_
        exact ih _ _ _ _ _ _ _ h hp (lv_sub hl [2, 1, 0] rfl)
def wp_X7_greatestDivisor (x0 : Int64) (x2 : Int64) (I : II) (Q : Int64 → II → Prop) : Prop := (∃ n51, wp_X7_greatestDivisor_9 Q (fun x4 I => (Q x4 I)) n51 x0 x2 (nI 0) I)
set_option maxHeartbeats 4000000 in
set_option maxRecDepth 100000 in
theorem w_X7_greatestDivisor_0 {E : EE} {p : Program} {l : Launch} {e : Env} {s : State} {m : MethodId} {args : Array Value} {below : List Frame} {meth : Method} {c : Code} {Q : Int64 → II → Prop} (X : CX E p s m args meth c cX7_greatestDivisor 11 (some .long) RX7) : ∀ (x0 : Int64) (x2 : Int64) (I : II) (H : Heap) (locs : List Loc) (ls : Array Slot), wp_X7_greatestDivisor x0 x2 I Q → PP E s H locs I → lv_has ls 11 [(0, .long x0), (2, .long x2)] → W p l e rmX7_greatestDivisor s m args below meth c H locs 0 0 (MQ below (va_Ql Q (BU E) E.2.2.2.1) args s 0 0 E.2.2.2.1) (F0 m 0 ls []) := by
  obtain ⟨⟨hx, hb, hml, hown, hts⟩, hr, hlk, hK, hST, hN⟩ := id X
  intro x0 x2 I H locs ls h hp hl
  unfold wp_X7_greatestDivisor at h
  refine lv_lload_n hx hb dX7_greatestDivisor_0 rfl (lv_at hl 0 rfl) ?_
  refine lv_lstore (lv' := [(4, .long x0), (0, .long x0), (2, .long x2)]) hx hb dX7_greatestDivisor_1 hl (by decide) rfl (fun ls hl => ?_)
  refine lv_lload_n hx hb dX7_greatestDivisor_3 rfl (lv_at hl 2 rfl) ?_
  refine lv_lstore (lv' := [(6, .long x2), (4, .long x0), (0, .long x0), (2, .long x2)]) hx hb dX7_greatestDivisor_4 hl (by decide) rfl (fun ls hl => ?_)
  refine lv_iconst (v := (nI 0)) hx hb dX7_greatestDivisor_6 (by decide) ?_
  refine lv_istore (lv' := [(8, .int (nI 0)), (6, .long x2), (4, .long x0), (0, .long x0), (2, .long x2)]) hx hb dX7_greatestDivisor_7 hl (by decide) rfl (fun ls hl => ?_)
  obtain ⟨n51, h⟩ := h
  refine w_X7_greatestDivisor_9 X ?_ n51 _ _ _ _ _ _ _ h hp (lv_sub hl [2, 1, 0] rfl)
  · intro x4 I H locs ls h hp hl
    refine lv_lload hx hb dX7_greatestDivisor_44 (lv_at hl 0 rfl) ?_
    exact rt_l X hp h dX7_greatestDivisor_46
set_option maxRecDepth 100000 in
theorem C_X7_greatestDivisor {E : EE} {l : Launch} {x0 : Int64} {x2 : Int64} {I : II} {Q : Int64 → II → Prop} (h : wp_X7_greatestDivisor x0 x2 I Q) : Met l yX7_greatestDivisor (Cond.code yX7_greatestDivisor cX7_greatestDivisor 11 (some .long) :: lwT) rmX7_greatestDivisor (va_Pc [.long x0, .long x2] (PU E I)) (va_Ql Q (BU E) E.2.2.2.1) 0 0 E.2.2.2.1 :=
  ofWalk [.long x0, .long x2] (by decide) tw_c_X7_greatestDivisor (Nat.le_of_ble_eq_true rfl) (fun p e s m below meth c ls X hp hl => w_X7_greatestDivisor_0 X _ _ _ _ _ _ h hp hl)
abbrev rmX7_away : Room := { frames := 6, cells := 0, slots := 0, locals := 138 }
theorem vf_X7_away : VF yX7_away RX7 cX7_away 9 (some .long) 2 := ⟨tw_in_X7, tw_im_X7_away, tw_se_X7_away, tw_c_X7_away, by decide, by decide, by decide +kernel⟩
def wp_X7_away (x1 : Int32) (x2 : Int32) (I : II) (Q : Int64 → II → Prop) : Prop := (wp_X1_isThere 0 I (fun r2 I1 => ((¬ r2 = 0 → ((x1 < 0 → (Q (-lN 1000001) I1)) ∧ (¬ x1 < 0 → (((nI 10) < x1 → (Q (-lN 1000001) I1)) ∧ (¬ (nI 10) < x1 → (wp_X7_isChoice x2 I1 (fun r7 I6 => ((¬ r7 = 0 → (wp_X2_casesAllPaid 0 x1 I6 (fun r10 I9 => (wp_X7_power (nI 10) (I9 (8 * 0) 7) I9 (fun r12 I11 => (wp_X7_greatestDivisor r10 r12 I11 (fun r14 I13 => ((0 < (lg_cmp r14 (lN 0)) → ((¬ x2 = 0 → (¬ r14 = 0 ∧ (Q (r12 / r14) I13))) ∧ (x2 = 0 → (¬ r14 = 0 ∧ (Q (r10 / r14) I13))))) ∧ (¬ 0 < (lg_cmp r14 (lN 0)) → (Q (-lN 1000000) I13)))))))))) ∧ (r7 = 0 → (Q (-lN 1000001) I6)))))))))) ∧ (r2 = 0 → (Q (-lN 1000002) I1)))))
set_option maxHeartbeats 4000000 in
set_option maxRecDepth 100000 in
theorem w_X7_away_0 {E : EE} {p : Program} {l : Launch} {e : Env} {s : State} {m : MethodId} {args : Array Value} {below : List Frame} {meth : Method} {c : Code} {Q : Int64 → II → Prop} (X : CX E p s m args meth c cX7_away 9 (some .long) RX7) : ∀ (x1 : Int32) (x2 : Int32) (I : II) (H : Heap) (locs : List Loc) (ls : Array Slot), wp_X7_away x1 x2 I Q → PP E s H locs I → lv_has ls 9 [(0, .ref (E.2.1 296)), (1, .int x1), (2, .int x2)] → W p l e rmX7_away s m args below meth c H locs 0 0 (MQ below (va_Ql Q (BU E) E.2.2.2.1) args s 0 0 E.2.2.2.1) (F0 m 0 ls []) := by
  obtain ⟨⟨hx, hb, hml, hown, hts⟩, hr, hlk, hK, hST, hN⟩ := id X
  intro x1 x2 I H locs ls h hp hl
  unfold wp_X7_away at h
  refine lv_aload_n hx hb dX7_away_0 rfl (lv_at hl 0 rfl) ?_
  refine f_X7_26 X hp dX7_away_1 ?_
  refine ki (kV (As := []) (rest := []) X hp (C_X1_isThere (by decide) h) tw_ml_X7_139 vf_X1_isThere ⟨rfl, rfl, Nat.le_of_ble_eq_true rfl, Nat.le_of_ble_eq_true rfl⟩ (pr_rcvb X hp (by decide)) rfl hl.1 rfl (Nat.le_of_ble_eq_true rfl) dX7_away_4) hp (fun r2 I1 H locs h hp => ?_)
  refine lv_if_ne (tgt := 14) hx hb dX7_away_7 (by decide) (fun c3 => ?_) (fun c3 => ?_)
  · have h := h.1 c3
    refine lv_iload_n hx hb dX7_away_14 rfl (lv_at hl 1 rfl) ?_
    refine lv_if_lt (tgt := 31) hx hb dX7_away_15 (by decide) (fun c4 => ?_) (fun c4 => ?_)
    · have h := h.1 c4
      refine lv_ldc2 (v := (-lN 1000001)) hx hb hown (hts _ tw_kl_X7_302) dX7_away_31 ?_
      exact rt_l X hp h dX7_away_34
    · have h := h.2 c4
      refine lv_iload_n hx hb dX7_away_18 rfl (lv_at hl 1 rfl) ?_
      refine lv_bipush (v := (nI 10)) hx hb dX7_away_19 (by decide) ?_
      refine lv_icmp_gt (tgt := 31) hx hb dX7_away_21 (by decide) (fun c5 => ?_) (fun c5 => ?_)
      · have h := h.1 c5
        refine lv_ldc2 (v := (-lN 1000001)) hx hb hown (hts _ tw_kl_X7_302) dX7_away_31 ?_
        exact rt_l X hp h dX7_away_34
      · have h := h.2 c5
        refine lv_iload_n hx hb dX7_away_24 rfl (lv_at hl 2 rfl) ?_
        refine ki (kS (As := [.int x2]) (rest := []) X hp (C_X7_isChoice  h) tw_ml_X7_158 sf_X7_isChoice ⟨rfl, rfl, Nat.le_of_ble_eq_true rfl, Nat.le_of_ble_eq_true rfl⟩ rfl hl.1 rfl (Nat.le_of_ble_eq_true rfl) dX7_away_25) hp (fun r7 I6 H locs h hp => ?_)
        refine lv_if_ne (tgt := 35) hx hb dX7_away_28 (by decide) (fun c8 => ?_) (fun c8 => ?_)
        · have h := h.1 c8
          refine lv_aload_n hx hb dX7_away_35 rfl (lv_at hl 0 rfl) ?_
          refine f_X7_44 X hp dX7_away_36 ?_
          refine lv_aload_n hx hb dX7_away_39 rfl (lv_at hl 0 rfl) ?_
          refine f_X7_26 X hp dX7_away_40 ?_
          refine lv_iload_n hx hb dX7_away_43 rfl (lv_at hl 1 rfl) ?_
          refine kl (kV (As := [.ref (E.2.1 (8 * 0)), .int x1]) (rest := []) X hp (C_X2_casesAllPaid (by decide) h) tw_ml_X7_304 vf_X2_casesAllPaid ⟨rfl, rfl, Nat.le_of_ble_eq_true rfl, Nat.le_of_ble_eq_true rfl⟩ (pr_rcv X hp (k := 306) (by decide) (ob_306 _) (q := (RX2, TX2, 4)) rfl) rfl hl.1 rfl (Nat.le_of_ble_eq_true rfl) dX7_away_44) hp (fun r10 I9 H locs h hp => ?_)
          refine lv_lstore_n (lv' := [(3, .long r10), (0, .ref (E.2.1 296)), (1, .int x1), (2, .int x2)]) hx hb dX7_away_47 rfl hl (by decide) rfl (fun ls hl => ?_)
          refine lv_bipush (v := (nI 10)) hx hb dX7_away_48 (by decide) ?_
          refine lv_aload_n hx hb dX7_away_50 rfl (lv_at hl 1 rfl) ?_
          refine f_X7_26 X hp dX7_away_51 ?_
          refine f_X7_152 X hp (by decide) dX7_away_54 ?_
          refine kl (kS (As := [.int (nI 10), .int (I9 (8 * 0) 7)]) (rest := []) X hp (C_X7_power  h) tw_ml_X7_308 sf_X7_power ⟨rfl, rfl, Nat.le_of_ble_eq_true rfl, Nat.le_of_ble_eq_true rfl⟩ rfl hl.1 rfl (Nat.le_of_ble_eq_true rfl) dX7_away_57) hp (fun r12 I11 H locs h hp => ?_)
          refine lv_lstore (lv' := [(5, .long r12), (3, .long r10), (0, .ref (E.2.1 296)), (1, .int x1), (2, .int x2)]) hx hb dX7_away_60 hl (by decide) rfl (fun ls hl => ?_)
          refine lv_lload_n hx hb dX7_away_62 rfl (lv_at hl 1 rfl) ?_
          refine lv_lload hx hb dX7_away_63 (lv_at hl 0 rfl) ?_
          refine kl (kS (As := [.long r10, .long r12]) (rest := []) X hp (C_X7_greatestDivisor  h) tw_ml_X7_312 sf_X7_greatestDivisor ⟨rfl, rfl, Nat.le_of_ble_eq_true rfl, Nat.le_of_ble_eq_true rfl⟩ rfl hl.1 rfl (Nat.le_of_ble_eq_true rfl) dX7_away_65) hp (fun r14 I13 H locs h hp => ?_)
          refine lv_lstore (lv' := [(7, .long r14), (5, .long r12), (3, .long r10), (0, .ref (E.2.1 296)), (1, .int x1), (2, .int x2)]) hx hb dX7_away_68 hl (by decide) rfl (fun ls hl => ?_)
          refine lv_lload hx hb dX7_away_70 (lv_at hl 0 rfl) ?_
          refine lv_lconst (v := (lN 0)) hx hb dX7_away_72 (by decide) ?_
          refine W.lcmp hx hb dX7_away_73 ?_
          refine lv_if_gt (tgt := 81) hx hb dX7_away_74 (by decide) (fun c15 => ?_) (fun c15 => ?_)
          · have h := h.1 c15
            refine lv_iload_n hx hb dX7_away_81 rfl (lv_at hl 5 rfl) ?_
            refine lv_if_ne (tgt := 89) hx hb dX7_away_82 (by decide) (fun c16 => ?_) (fun c16 => ?_)
            · have h := h.1 c16
              refine lv_lload hx hb dX7_away_89 (lv_at hl 1 rfl) ?_
              refine lv_lload hx hb dX7_away_91 (lv_at hl 0 rfl) ?_
              have hz17 := h.1
              have h := h.2
              refine lv_ldiv hx hb dX7_away_93 hz17 ?_
              exact rt_l X hp h dX7_away_94
            · have h := h.2 c16
              refine lv_lload_n hx hb dX7_away_85 rfl (lv_at hl 2 rfl) ?_
              refine lv_goto (tgt := 91) hx hb dX7_away_86 (by decide) ?_
              refine lv_lload hx hb dX7_away_91 (lv_at hl 0 rfl) ?_
              have hz18 := h.1
              have h := h.2
              refine lv_ldiv hx hb dX7_away_93 hz18 ?_
              exact rt_l X hp h dX7_away_94
          · have h := h.2 c15
            refine lv_ldc2 (v := (-lN 1000000)) hx hb hown (hts _ tw_kl_X7_316) dX7_away_77 ?_
            exact rt_l X hp h dX7_away_80
        · have h := h.2 c8
          refine lv_ldc2 (v := (-lN 1000001)) hx hb hown (hts _ tw_kl_X7_302) dX7_away_31 ?_
          exact rt_l X hp h dX7_away_34
  · have h := h.2 c3
    refine lv_ldc2 (v := (-lN 1000002)) hx hb hown (hts _ tw_kl_X7_300) dX7_away_10 ?_
    exact rt_l X hp h dX7_away_13
set_option maxRecDepth 100000 in
theorem C_X7_away {E : EE} {l : Launch} {x1 : Int32} {x2 : Int32} {I : II} {Q : Int64 → II → Prop} (h : wp_X7_away x1 x2 I Q) : Met l yX7_away (Cond.code yX7_away cX7_away 9 (some .long) :: lwT) rmX7_away (va_Pc [.ref (E.2.1 296), .int x1, .int x2] (PU E I)) (va_Ql Q (BU E) E.2.2.2.1) 0 0 E.2.2.2.1 :=
  ofWalk [.ref (E.2.1 296), .int x1, .int x2] (by decide) tw_c_X7_away (Nat.le_of_ble_eq_true rfl) (fun p e s m below meth c ls X hp hl => w_X7_away_0 X _ _ _ _ _ _ h hp hl)
abbrev rmX7_drawn : Room := { frames := 5, cells := 0, slots := 0, locals := 116 }
theorem vf_X7_drawn : VF yX7_drawn RX7 cX7_drawn 5 (some .int) 3 := ⟨tw_in_X7, tw_im_X7_drawn, tw_se_X7_drawn, tw_c_X7_drawn, by decide, by decide, by decide +kernel⟩
def wp_X7_drawn (x1 : Int32) (x2 : Int32) (x3 : Int32) (I : II) (Q : Int32 → II → Prop) : Prop := (wp_X1_isThere 0 I (fun r2 I1 => ((¬ r2 = 0 → (wp_X7_isForetold x1 I1 (fun r5 I4 => ((r5 = 0 → (Q (-nI 1000001) I4)) ∧ (¬ r5 = 0 → ((x2 < (nI 1) → (Q (-nI 1000001) I4)) ∧ (¬ x2 < (nI 1) → (((nI 999999) < x2 → (Q (-nI 1000001) I4)) ∧ (¬ (nI 999999) < x2 → (wp_X7_isChoice x3 I4 (fun r10 I9 => ((¬ r10 = 0 → (wp_X2_weeks 0 x1 x2 I9 (fun I12 => ((¬ x3 = 0 → (wp_X1_leftTogether 2 I12 (fun r16 I15 => (Q r16 I15)))) ∧ (x3 = 0 → (Q ((I12 (8 * 2) 6) - (I12 (8 * 0) 6)) I12)))))) ∧ (r10 = 0 → (Q (-nI 1000001) I9)))))))))))))) ∧ (r2 = 0 → (Q (-nI 1000002) I1)))))
set_option maxHeartbeats 4000000 in
set_option maxRecDepth 100000 in
theorem w_X7_drawn_0 {E : EE} {p : Program} {l : Launch} {e : Env} {s : State} {m : MethodId} {args : Array Value} {below : List Frame} {meth : Method} {c : Code} {Q : Int32 → II → Prop} (X : CX E p s m args meth c cX7_drawn 5 (some .int) RX7) : ∀ (x1 : Int32) (x2 : Int32) (x3 : Int32) (I : II) (H : Heap) (locs : List Loc) (ls : Array Slot), wp_X7_drawn x1 x2 x3 I Q → PP E s H locs I → lv_has ls 5 [(0, .ref (E.2.1 296)), (1, .int x1), (2, .int x2), (3, .int x3)] → W p l e rmX7_drawn s m args below meth c H locs 0 0 (MQ below (va_Qi Q (BU E) E.2.2.2.1) args s 0 0 E.2.2.2.1) (F0 m 0 ls []) := by
  obtain ⟨⟨hx, hb, hml, hown, hts⟩, hr, hlk, hK, hST, hN⟩ := id X
  intro x1 x2 x3 I H locs ls h hp hl
  unfold wp_X7_drawn at h
  refine lv_aload_n hx hb dX7_drawn_0 rfl (lv_at hl 0 rfl) ?_
  refine f_X7_26 X hp dX7_drawn_1 ?_
  refine ki (kV (As := []) (rest := []) X hp (C_X1_isThere (by decide) h) tw_ml_X7_139 vf_X1_isThere ⟨rfl, rfl, Nat.le_of_ble_eq_true rfl, Nat.le_of_ble_eq_true rfl⟩ (pr_rcvb X hp (by decide)) rfl hl.1 rfl (Nat.le_of_ble_eq_true rfl) dX7_drawn_4) hp (fun r2 I1 H locs h hp => ?_)
  refine lv_if_ne (tgt := 13) hx hb dX7_drawn_7 (by decide) (fun c3 => ?_) (fun c3 => ?_)
  · have h := h.1 c3
    refine lv_iload_n hx hb dX7_drawn_13 rfl (lv_at hl 1 rfl) ?_
    refine ki (kS (As := [.int x1]) (rest := []) X hp (C_X7_isForetold  h) tw_ml_X7_218 sf_X7_isForetold ⟨rfl, rfl, Nat.le_of_ble_eq_true rfl, Nat.le_of_ble_eq_true rfl⟩ rfl hl.1 rfl (Nat.le_of_ble_eq_true rfl) dX7_drawn_14) hp (fun r5 I4 H locs h hp => ?_)
    refine lv_if_eq (tgt := 39) hx hb dX7_drawn_17 (by decide) (fun c6 => ?_) (fun c6 => ?_)
    · have h := h.1 c6
      refine lv_ldc (v := (-nI 1000001)) hx hb hown (hts _ tw_k_X7_66) dX7_drawn_39 ?_
      exact rt_i X hp h dX7_drawn_41
    · have h := h.2 c6
      refine lv_iload_n hx hb dX7_drawn_20 rfl (lv_at hl 2 rfl) ?_
      refine lv_iconst (v := (nI 1)) hx hb dX7_drawn_21 (by decide) ?_
      refine lv_icmp_lt (tgt := 39) hx hb dX7_drawn_22 (by decide) (fun c7 => ?_) (fun c7 => ?_)
      · have h := h.1 c7
        refine lv_ldc (v := (-nI 1000001)) hx hb hown (hts _ tw_k_X7_66) dX7_drawn_39 ?_
        exact rt_i X hp h dX7_drawn_41
      · have h := h.2 c7
        refine lv_iload_n hx hb dX7_drawn_25 rfl (lv_at hl 2 rfl) ?_
        refine lv_ldcw (v := (nI 999999)) hx hb hown (hts _ tw_k_X7_318) dX7_drawn_26 ?_
        refine lv_icmp_gt (tgt := 39) hx hb dX7_drawn_29 (by decide) (fun c8 => ?_) (fun c8 => ?_)
        · have h := h.1 c8
          refine lv_ldc (v := (-nI 1000001)) hx hb hown (hts _ tw_k_X7_66) dX7_drawn_39 ?_
          exact rt_i X hp h dX7_drawn_41
        · have h := h.2 c8
          refine lv_iload_n hx hb dX7_drawn_32 rfl (lv_at hl 3 rfl) ?_
          refine ki (kS (As := [.int x3]) (rest := []) X hp (C_X7_isChoice  h) tw_ml_X7_158 sf_X7_isChoice ⟨rfl, rfl, Nat.le_of_ble_eq_true rfl, Nat.le_of_ble_eq_true rfl⟩ rfl hl.1 rfl (Nat.le_of_ble_eq_true rfl) dX7_drawn_33) hp (fun r10 I9 H locs h hp => ?_)
          refine lv_if_ne (tgt := 42) hx hb dX7_drawn_36 (by decide) (fun c11 => ?_) (fun c11 => ?_)
          · have h := h.1 c11
            refine lv_aload_n hx hb dX7_drawn_42 rfl (lv_at hl 0 rfl) ?_
            refine f_X7_44 X hp dX7_drawn_43 ?_
            refine lv_aload_n hx hb dX7_drawn_46 rfl (lv_at hl 0 rfl) ?_
            refine f_X7_26 X hp dX7_drawn_47 ?_
            refine lv_iload_n hx hb dX7_drawn_50 rfl (lv_at hl 1 rfl) ?_
            refine lv_iload_n hx hb dX7_drawn_51 rfl (lv_at hl 2 rfl) ?_
            refine kr (kV (As := [.ref (E.2.1 (8 * 0)), .int x1, .int x2]) (rest := []) X hp (C_X2_weeks (by decide) h) tw_ml_X7_319 vf_X2_weeks ⟨rfl, rfl, Nat.le_of_ble_eq_true rfl, Nat.le_of_ble_eq_true rfl⟩ (pr_rcv X hp (k := 306) (by decide) (ob_306 _) (q := (RX2, TX2, 4)) rfl) rfl hl.1 rfl (Nat.le_of_ble_eq_true rfl) dX7_drawn_52) hp (fun I12 H locs h hp => ?_)
            refine lv_astore (lv' := [(4, .ref (E.2.1 (8 * 2))), (0, .ref (E.2.1 296)), (1, .int x1), (2, .int x2), (3, .int x3)]) hx hb dX7_drawn_55 hl (by decide) rfl (fun ls hl => ?_)
            refine lv_iload_n hx hb dX7_drawn_57 rfl (lv_at hl 4 rfl) ?_
            refine lv_if_ne (tgt := 77) hx hb dX7_drawn_58 (by decide) (fun c14 => ?_) (fun c14 => ?_)
            · have h := h.1 c14
              refine lv_aload hx hb dX7_drawn_77 (lv_at hl 0 rfl) ?_
              refine ki (kV (As := []) (rest := []) X hp (C_X1_leftTogether (by decide) h) tw_ml_X7_323 vf_X1_leftTogether ⟨rfl, rfl, Nat.le_of_ble_eq_true rfl, Nat.le_of_ble_eq_true rfl⟩ (pr_rcvb X hp (by decide)) rfl hl.1 rfl (Nat.le_of_ble_eq_true rfl) dX7_drawn_79) hp (fun r16 I15 H locs h hp => ?_)
              exact rt_i X hp h dX7_drawn_82
            · have h := h.2 c14
              refine lv_aload hx hb dX7_drawn_61 (lv_at hl 0 rfl) ?_
              refine f_X7_174 X hp (by decide) dX7_drawn_63 ?_
              refine lv_aload_n hx hb dX7_drawn_66 rfl (lv_at hl 1 rfl) ?_
              refine f_X7_26 X hp dX7_drawn_67 ?_
              refine f_X7_174 X hp (by decide) dX7_drawn_70 ?_
              refine lv_isub hx hb dX7_drawn_73 ?_
              refine lv_goto (tgt := 82) hx hb dX7_drawn_74 (by decide) ?_
              exact rt_i X hp h dX7_drawn_82
          · have h := h.2 c11
            refine lv_ldc (v := (-nI 1000001)) hx hb hown (hts _ tw_k_X7_66) dX7_drawn_39 ?_
            exact rt_i X hp h dX7_drawn_41
  · have h := h.2 c3
    refine lv_ldc (v := (-nI 1000002)) hx hb hown (hts _ tw_k_X7_132) dX7_drawn_10 ?_
    exact rt_i X hp h dX7_drawn_12
set_option maxRecDepth 100000 in
theorem C_X7_drawn {E : EE} {l : Launch} {x1 : Int32} {x2 : Int32} {x3 : Int32} {I : II} {Q : Int32 → II → Prop} (h : wp_X7_drawn x1 x2 x3 I Q) : Met l yX7_drawn (Cond.code yX7_drawn cX7_drawn 5 (some .int) :: lwT) rmX7_drawn (va_Pc [.ref (E.2.1 296), .int x1, .int x2, .int x3] (PU E I)) (va_Qi Q (BU E) E.2.2.2.1) 0 0 E.2.2.2.1 :=
  ofWalk [.ref (E.2.1 296), .int x1, .int x2, .int x3] (by decide) tw_c_X7_drawn (Nat.le_of_ble_eq_true rfl) (fun p e s m below meth c ls X hp hl => w_X7_drawn_0 X _ _ _ _ _ _ _ h hp hl)
abbrev rmX7_image : Room := { frames := 2, cells := 0, slots := 0, locals := 44 }
theorem vf_X7_image : VF yX7_image RX7 cX7_image 2 (some .int) 1 := ⟨tw_in_X7, tw_im_X7_image, tw_se_X7_image, tw_c_X7_image, by decide, by decide, by decide +kernel⟩
def wp_X7_image (x1 : Int32) (I : II) (Q : Int32 → II → Prop) : Prop := ((x1 < 0 → (Q (-nI 1000001) I)) ∧ (¬ x1 < 0 → ((x1 < (nI 2) → (wp_X1_isThere 0 I (fun r4 I3 => ((¬ r4 = 0 → (vp_in x1 2 ∧ (wp_X1_takeAll (3 + x1.toNatClampNeg) 0 I3 (fun I7 => (Q (nI 1) I7))))) ∧ (r4 = 0 → (Q (-nI 1000002) I3)))))) ∧ (¬ x1 < (nI 2) → (Q (-nI 1000001) I)))))
set_option maxHeartbeats 4000000 in
set_option maxRecDepth 100000 in
theorem w_X7_image_0 {E : EE} {p : Program} {l : Launch} {e : Env} {s : State} {m : MethodId} {args : Array Value} {below : List Frame} {meth : Method} {c : Code} {Q : Int32 → II → Prop} (X : CX E p s m args meth c cX7_image 2 (some .int) RX7) : ∀ (x1 : Int32) (I : II) (H : Heap) (locs : List Loc) (ls : Array Slot), wp_X7_image x1 I Q → PP E s H locs I → lv_has ls 2 [(0, .ref (E.2.1 296)), (1, .int x1)] → W p l e rmX7_image s m args below meth c H locs 0 0 (MQ below (va_Qi Q (BU E) E.2.2.2.1) args s 0 0 E.2.2.2.1) (F0 m 0 ls []) := by
  obtain ⟨⟨hx, hb, hml, hown, hts⟩, hr, hlk, hK, hST, hN⟩ := id X
  intro x1 I H locs ls h hp hl
  unfold wp_X7_image at h
  refine lv_iload_n hx hb dX7_image_0 rfl (lv_at hl 1 rfl) ?_
  refine lv_if_lt (tgt := 9) hx hb dX7_image_1 (by decide) (fun c1 => ?_) (fun c1 => ?_)
  · have h := h.1 c1
    refine lv_ldc (v := (-nI 1000001)) hx hb hown (hts _ tw_k_X7_66) dX7_image_9 ?_
    exact rt_i X hp h dX7_image_11
  · have h := h.2 c1
    refine lv_iload_n hx hb dX7_image_4 rfl (lv_at hl 1 rfl) ?_
    refine lv_iconst (v := (nI 2)) hx hb dX7_image_5 (by decide) ?_
    refine lv_icmp_lt (tgt := 12) hx hb dX7_image_6 (by decide) (fun c2 => ?_) (fun c2 => ?_)
    · have h := h.1 c2
      refine lv_aload_n hx hb dX7_image_12 rfl (lv_at hl 0 rfl) ?_
      refine f_X7_26 X hp dX7_image_13 ?_
      refine ki (kV (As := []) (rest := []) X hp (C_X1_isThere (by decide) h) tw_ml_X7_139 vf_X1_isThere ⟨rfl, rfl, Nat.le_of_ble_eq_true rfl, Nat.le_of_ble_eq_true rfl⟩ (pr_rcvb X hp (by decide)) rfl hl.1 rfl (Nat.le_of_ble_eq_true rfl) dX7_image_16) hp (fun r4 I3 H locs h hp => ?_)
      refine lv_if_ne (tgt := 25) hx hb dX7_image_19 (by decide) (fun c5 => ?_) (fun c5 => ?_)
      · have h := h.1 c5
        refine lv_aload_n hx hb dX7_image_25 rfl (lv_at hl 0 rfl) ?_
        refine f_X7_37 X hp dX7_image_26 ?_
        refine lv_iload_n hx hb dX7_image_29 rfl (lv_at hl 1 rfl) ?_
        have hv6 := h.1
        have h := h.2
        refine al_a X hp ba_305 hv6 dX7_image_30 ?_
        refine lv_aload_n hx hb dX7_image_31 rfl (lv_at hl 0 rfl) ?_
        refine f_X7_26 X hp dX7_image_32 ?_
        refine kv (kV (As := [.ref (E.2.1 (8 * 0))]) (rest := []) X hp (C_X1_takeAll (bk_3 hv6) (by decide) h) tw_ml_X7_326 vf_X1_takeAll ⟨rfl, rfl, Nat.le_of_ble_eq_true rfl, Nat.le_of_ble_eq_true rfl⟩ (pr_rcvb X hp (bk_3 hv6)) rfl hl.1 rfl (Nat.le_of_ble_eq_true rfl) dX7_image_35) hp (fun I7 H locs h hp => ?_)
        refine lv_iconst (v := (nI 1)) hx hb dX7_image_38 (by decide) ?_
        exact rt_i X hp h dX7_image_39
      · have h := h.2 c5
        refine lv_ldc (v := (-nI 1000002)) hx hb hown (hts _ tw_k_X7_132) dX7_image_22 ?_
        exact rt_i X hp h dX7_image_24
    · have h := h.2 c2
      refine lv_ldc (v := (-nI 1000001)) hx hb hown (hts _ tw_k_X7_66) dX7_image_9 ?_
      exact rt_i X hp h dX7_image_11
set_option maxRecDepth 100000 in
theorem C_X7_image {E : EE} {l : Launch} {x1 : Int32} {I : II} {Q : Int32 → II → Prop} (h : wp_X7_image x1 I Q) : Met l yX7_image (Cond.code yX7_image cX7_image 2 (some .int) :: lwT) rmX7_image (va_Pc [.ref (E.2.1 296), .int x1] (PU E I)) (va_Qi Q (BU E) E.2.2.2.1) 0 0 E.2.2.2.1 :=
  ofWalk [.ref (E.2.1 296), .int x1] (by decide) tw_c_X7_image (Nat.le_of_ble_eq_true rfl) (fun p e s m below meth c ls X hp hl => w_X7_image_0 X _ _ _ _ _ h hp hl)
abbrev rmX7_restore : Room := { frames := 3, cells := 0, slots := 0, locals := 65 }
theorem vf_X7_restore : VF yX7_restore RX7 cX7_restore 2 (some .int) 1 := ⟨tw_in_X7, tw_im_X7_restore, tw_se_X7_restore, tw_c_X7_restore, by decide, by decide, by decide +kernel⟩
def wp_X7_restore (x1 : Int32) (I : II) (Q : Int32 → II → Prop) : Prop := ((x1 < 0 → (Q (-nI 1000001) I)) ∧ (¬ x1 < 0 → ((x1 < (nI 2) → (vp_in x1 2 ∧ (wp_X1_isThere (3 + x1.toNatClampNeg) I (fun r5 I4 => ((¬ r5 = 0 → (vp_in x1 2 ∧ (wp_X7_standAs (3 + x1.toNatClampNeg) I4 (fun I8 => (Q (nI 1) I8))))) ∧ (r5 = 0 → (Q (-nI 1000002) I4))))))) ∧ (¬ x1 < (nI 2) → (Q (-nI 1000001) I)))))
set_option maxHeartbeats 4000000 in
set_option maxRecDepth 100000 in
theorem w_X7_restore_0 {E : EE} {p : Program} {l : Launch} {e : Env} {s : State} {m : MethodId} {args : Array Value} {below : List Frame} {meth : Method} {c : Code} {Q : Int32 → II → Prop} (X : CX E p s m args meth c cX7_restore 2 (some .int) RX7) : ∀ (x1 : Int32) (I : II) (H : Heap) (locs : List Loc) (ls : Array Slot), wp_X7_restore x1 I Q → PP E s H locs I → lv_has ls 2 [(0, .ref (E.2.1 296)), (1, .int x1)] → W p l e rmX7_restore s m args below meth c H locs 0 0 (MQ below (va_Qi Q (BU E) E.2.2.2.1) args s 0 0 E.2.2.2.1) (F0 m 0 ls []) := by
  obtain ⟨⟨hx, hb, hml, hown, hts⟩, hr, hlk, hK, hST, hN⟩ := id X
  intro x1 I H locs ls h hp hl
  unfold wp_X7_restore at h
  refine lv_iload_n hx hb dX7_restore_0 rfl (lv_at hl 1 rfl) ?_
  refine lv_if_lt (tgt := 9) hx hb dX7_restore_1 (by decide) (fun c1 => ?_) (fun c1 => ?_)
  · have h := h.1 c1
    refine lv_ldc (v := (-nI 1000001)) hx hb hown (hts _ tw_k_X7_66) dX7_restore_9 ?_
    exact rt_i X hp h dX7_restore_11
  · have h := h.2 c1
    refine lv_iload_n hx hb dX7_restore_4 rfl (lv_at hl 1 rfl) ?_
    refine lv_iconst (v := (nI 2)) hx hb dX7_restore_5 (by decide) ?_
    refine lv_icmp_lt (tgt := 12) hx hb dX7_restore_6 (by decide) (fun c2 => ?_) (fun c2 => ?_)
    · have h := h.1 c2
      refine lv_aload_n hx hb dX7_restore_12 rfl (lv_at hl 0 rfl) ?_
      refine f_X7_37 X hp dX7_restore_13 ?_
      refine lv_iload_n hx hb dX7_restore_16 rfl (lv_at hl 1 rfl) ?_
      have hv3 := h.1
      have h := h.2
      refine al_a X hp ba_305 hv3 dX7_restore_17 ?_
      refine ki (kV (As := []) (rest := []) X hp (C_X1_isThere (bk_3 hv3) h) tw_ml_X7_139 vf_X1_isThere ⟨rfl, rfl, Nat.le_of_ble_eq_true rfl, Nat.le_of_ble_eq_true rfl⟩ (pr_rcvb X hp (bk_3 hv3)) rfl hl.1 rfl (Nat.le_of_ble_eq_true rfl) dX7_restore_18) hp (fun r5 I4 H locs h hp => ?_)
      refine lv_if_ne (tgt := 27) hx hb dX7_restore_21 (by decide) (fun c6 => ?_) (fun c6 => ?_)
      · have h := h.1 c6
        refine lv_aload_n hx hb dX7_restore_27 rfl (lv_at hl 0 rfl) ?_
        refine lv_aload_n hx hb dX7_restore_28 rfl (lv_at hl 0 rfl) ?_
        refine f_X7_37 X hp dX7_restore_29 ?_
        refine lv_iload_n hx hb dX7_restore_32 rfl (lv_at hl 1 rfl) ?_
        have hv7 := h.1
        have h := h.2
        refine al_a X hp ba_305 hv7 dX7_restore_33 ?_
        refine kv (kV (As := [.ref (E.2.1 (8 * (3 + x1.toNatClampNeg)))]) (rest := []) X hp (C_X7_standAs (bk_3 hv7) h) tw_ml_X7_121 vf_X7_standAs ⟨rfl, rfl, Nat.le_of_ble_eq_true rfl, Nat.le_of_ble_eq_true rfl⟩ (pr_rcv X hp (k := 296) (by decide) (ob_296 _) (q := (RX7, TX7, 9)) rfl) rfl hl.1 rfl (Nat.le_of_ble_eq_true rfl) dX7_restore_34) hp (fun I8 H locs h hp => ?_)
        refine lv_iconst (v := (nI 1)) hx hb dX7_restore_37 (by decide) ?_
        exact rt_i X hp h dX7_restore_38
      · have h := h.2 c6
        refine lv_ldc (v := (-nI 1000002)) hx hb hown (hts _ tw_k_X7_132) dX7_restore_24 ?_
        exact rt_i X hp h dX7_restore_26
    · have h := h.2 c2
      refine lv_ldc (v := (-nI 1000001)) hx hb hown (hts _ tw_k_X7_66) dX7_restore_9 ?_
      exact rt_i X hp h dX7_restore_11
set_option maxRecDepth 100000 in
theorem C_X7_restore {E : EE} {l : Launch} {x1 : Int32} {I : II} {Q : Int32 → II → Prop} (h : wp_X7_restore x1 I Q) : Met l yX7_restore (Cond.code yX7_restore cX7_restore 2 (some .int) :: lwT) rmX7_restore (va_Pc [.ref (E.2.1 296), .int x1] (PU E I)) (va_Qi Q (BU E) E.2.2.2.1) 0 0 E.2.2.2.1 :=
  ofWalk [.ref (E.2.1 296), .int x1] (by decide) tw_c_X7_restore (Nat.le_of_ble_eq_true rfl) (fun p e s m below meth c ls X hp hl => w_X7_restore_0 X _ _ _ _ _ h hp hl)
abbrev rmX7_kind : Room := { frames := 1, cells := 0, slots := 0, locals := 21 }
theorem vf_X7_kind : VF yX7_kind RX7 cX7_kind 2 (some .int) 1 := ⟨tw_in_X7, tw_im_X7_kind, tw_se_X7_kind, tw_c_X7_kind, by decide, by decide, by decide +kernel⟩
def wp_X7_kind (x1 : Int32) (I : II) (Q : Int32 → II → Prop) : Prop := (wp_X1_hasTeller 0 x1 I (fun r2 I1 => ((r2 = 0 → (Q (-nI 1000001) I1)) ∧ (¬ r2 = 0 → (vp_in x1 4 ∧ (Q (I1 (8 * 0 + 1) x1.toNatClampNeg) I1))))))
set_option maxHeartbeats 4000000 in
set_option maxRecDepth 100000 in
theorem w_X7_kind_0 {E : EE} {p : Program} {l : Launch} {e : Env} {s : State} {m : MethodId} {args : Array Value} {below : List Frame} {meth : Method} {c : Code} {Q : Int32 → II → Prop} (X : CX E p s m args meth c cX7_kind 2 (some .int) RX7) : ∀ (x1 : Int32) (I : II) (H : Heap) (locs : List Loc) (ls : Array Slot), wp_X7_kind x1 I Q → PP E s H locs I → lv_has ls 2 [(0, .ref (E.2.1 296)), (1, .int x1)] → W p l e rmX7_kind s m args below meth c H locs 0 0 (MQ below (va_Qi Q (BU E) E.2.2.2.1) args s 0 0 E.2.2.2.1) (F0 m 0 ls []) := by
  obtain ⟨⟨hx, hb, hml, hown, hts⟩, hr, hlk, hK, hST, hN⟩ := id X
  intro x1 I H locs ls h hp hl
  unfold wp_X7_kind at h
  refine lv_aload_n hx hb dX7_kind_0 rfl (lv_at hl 0 rfl) ?_
  refine f_X7_26 X hp dX7_kind_1 ?_
  refine lv_iload_n hx hb dX7_kind_4 rfl (lv_at hl 1 rfl) ?_
  refine ki (kV (As := [.int x1]) (rest := []) X hp (C_X1_hasTeller (by decide) h) tw_ml_X7_155 vf_X1_hasTeller ⟨rfl, rfl, Nat.le_of_ble_eq_true rfl, Nat.le_of_ble_eq_true rfl⟩ (pr_rcvb X hp (by decide)) rfl hl.1 rfl (Nat.le_of_ble_eq_true rfl) dX7_kind_5) hp (fun r2 I1 H locs h hp => ?_)
  refine lv_if_eq (tgt := 23) hx hb dX7_kind_8 (by decide) (fun c3 => ?_) (fun c3 => ?_)
  · have h := h.1 c3
    refine lv_ldc (v := (-nI 1000001)) hx hb hown (hts _ tw_k_X7_66) dX7_kind_23 ?_
    exact rt_i X hp h dX7_kind_25
  · have h := h.2 c3
    refine lv_aload_n hx hb dX7_kind_11 rfl (lv_at hl 0 rfl) ?_
    refine f_X7_26 X hp dX7_kind_12 ?_
    refine f_X7_329 X hp (by decide) dX7_kind_15 ?_
    refine lv_iload_n hx hb dX7_kind_18 rfl (lv_at hl 1 rfl) ?_
    have hv4 := h.1
    have h := h.2
    refine al_i X hp (ar_1 (by decide)) hv4 dX7_kind_19 ?_
    refine lv_goto (tgt := 25) hx hb dX7_kind_20 (by decide) ?_
    exact rt_i X hp h dX7_kind_25
set_option maxRecDepth 100000 in
theorem C_X7_kind {E : EE} {l : Launch} {x1 : Int32} {I : II} {Q : Int32 → II → Prop} (h : wp_X7_kind x1 I Q) : Met l yX7_kind (Cond.code yX7_kind cX7_kind 2 (some .int) :: lwT) rmX7_kind (va_Pc [.ref (E.2.1 296), .int x1] (PU E I)) (va_Qi Q (BU E) E.2.2.2.1) 0 0 E.2.2.2.1 :=
  ofWalk [.ref (E.2.1 296), .int x1] (by decide) tw_c_X7_kind (Nat.le_of_ble_eq_true rfl) (fun p e s m below meth c ls X hp hl => w_X7_kind_0 X _ _ _ _ _ h hp hl)
abbrev rmX7_isKindOf : Room := { frames := 0, cells := 0, slots := 0, locals := 0 }
theorem sf_X7_isKindOf : SF yX7_isKindOf cX7_isKindOf 4 (some .boolean) 2 := ⟨tw_in_X7, tw_st_X7_isKindOf, tw_c_X7_isKindOf, by decide, by decide, by decide +kernel⟩
def wp_X7_isKindOf_4 (Q : Int32 → II → Prop) (k27 : II → Prop) (k41 : II → Prop) : Nat → Int32 → Int32 → Int32 → II → Prop
  | 0, _, _, _, _ => False
  | n + 1, x1, x2, x3, I => (((nI 6) ≤ x3 → (k41 I)) ∧ (¬ (nI 6) ≤ x3 → ((x2 < 0 → (k41 I)) ∧ (¬ x2 < 0 → (((nI 6) ≤ x2 → (k41 I)) ∧ (¬ (nI 6) ≤ x2 → ((¬ x2 = x1 → (vp_in x2 6 ∧ (wp_X7_isKindOf_4 Q k27 k41 n x1 (stA x2.toNatClampNeg) (x3 + (nI 1)) I))) ∧ (x2 = x1 → (k27 I)))))))))
set_option maxHeartbeats 4000000 in
set_option maxRecDepth 100000 in
theorem w_X7_isKindOf_4 {E : EE} {p : Program} {l : Launch} {e : Env} {s : State} {m : MethodId} {args : Array Value} {below : List Frame} {meth : Method} {c : Code} {Q : Int32 → II → Prop} {k27 : II → Prop} {k41 : II → Prop} (X : CX E p s m args meth c cX7_isKindOf 4 (some .boolean) RX7) (K27 : ∀ (I : II) (H : Heap) (locs : List Loc) (ls : Array Slot), k27 I → PP E s H locs I → lv_has ls 4 [] → W p l e rmX7_isKindOf s m args below meth c H locs 0 0 (MQ below (va_Qi Q (BU E) E.2.2.2.1) args s 0 0 E.2.2.2.1) (F0 m 27 ls [])) (K41 : ∀ (I : II) (H : Heap) (locs : List Loc) (ls : Array Slot), k41 I → PP E s H locs I → lv_has ls 4 [] → W p l e rmX7_isKindOf s m args below meth c H locs 0 0 (MQ below (va_Qi Q (BU E) E.2.2.2.1) args s 0 0 E.2.2.2.1) (F0 m 41 ls [])) : ∀ (n : Nat) (x1 : Int32) (x2 : Int32) (x3 : Int32) (I : II) (H : Heap) (locs : List Loc) (ls : Array Slot), wp_X7_isKindOf_4 Q k27 k41 n x1 x2 x3 I → PP E s H locs I → lv_has ls 4 [(1, .int x1), (2, .int x2), (3, .int x3)] → W p l e rmX7_isKindOf s m args below meth c H locs 0 0 (MQ below (va_Qi Q (BU E) E.2.2.2.1) args s 0 0 E.2.2.2.1) (F0 m 4 ls []) := by
  obtain ⟨⟨hx, hb, hml, hown, hts⟩, hr, hlk, hK, hST, hN⟩ := id X
  intro n
  induction n with
  | zero =>
    intro x1 x2 x3 I H locs ls h hp hl
    exact False.elim h
  | succ n ih =>
    intro x1 x2 x3 I H locs ls h hp hl
    rw [wp_X7_isKindOf_4.eq_2] at h
    refine lv_iload_n hx hb dX7_isKindOf_4 rfl (lv_at hl 2 rfl) ?_
    refine lv_bipush (v := (nI 6)) hx hb dX7_isKindOf_5 (by decide) ?_
    refine lv_icmp_ge (tgt := 41) hx hb dX7_isKindOf_7 (by decide) (fun c1 => ?_) (fun c1 => ?_)
    · have h := h.1 c1
      exact K41 _ _ _ _ h hp (lv_sub hl [] rfl)
    · have h := h.2 c1
      refine lv_iload_n hx hb dX7_isKindOf_10 rfl (lv_at hl 1 rfl) ?_
      refine lv_if_lt (tgt := 41) hx hb dX7_isKindOf_11 (by decide) (fun c2 => ?_) (fun c2 => ?_)
      · have h := h.1 c2
        exact K41 _ _ _ _ h hp (lv_sub hl [] rfl)
      · have h := h.2 c2
        refine lv_iload_n hx hb dX7_isKindOf_14 rfl (lv_at hl 1 rfl) ?_
        refine gs_X7_359 X hp dX7_isKindOf_15 ?_
        refine va_tlen (v := 6) hx hb hST.1.2 hp.2.2 rfl dX7_isKindOf_18 ?_
        refine lv_icmp_ge (tgt := 41) hx hb dX7_isKindOf_19 (by decide) (fun c3 => ?_) (fun c3 => ?_)
        · have h := h.1 c3
          exact K41 _ _ _ _ h hp (lv_sub hl [] rfl)
        · have h := h.2 c3
          refine lv_iload_n hx hb dX7_isKindOf_22 rfl (lv_at hl 1 rfl) ?_
          refine lv_iload_n hx hb dX7_isKindOf_23 rfl (lv_at hl 0 rfl) ?_
          refine lv_icmp_ne (tgt := 29) hx hb dX7_isKindOf_24 (by decide) (fun c4 => ?_) (fun c4 => ?_)
          · have h := h.1 c4
            refine gs_X7_359 X hp dX7_isKindOf_29 ?_
            refine lv_iload_n hx hb dX7_isKindOf_32 rfl (lv_at hl 1 rfl) ?_
            have hv5 := h.1
            have h := h.2
            refine va_ti hx hb hST.1.2 hp.2.2 hv5 (v := .int (stA x2.toNatClampNeg)) rfl dX7_isKindOf_33 ?_
            refine lv_istore_n (lv' := [(2, .int (stA x2.toNatClampNeg)), (1, .int x1), (3, .int x3)]) hx hb dX7_isKindOf_34 rfl hl (by decide) rfl (fun ls hl => ?_)
            refine lv_iinc (v := (x3 + (nI 1))) (lv' := [(3, .int (x3 + (nI 1))), (2, .int (stA x2.toNatClampNeg)), (1, .int x1)]) hx hb dX7_isKindOf_35 hl (k := 2) rfl rfl (by decide) rfl (fun ls hl => ?_)
            refine lv_goto (tgt := 4) hx hb dX7_isKindOf_38 (by decide) ?_
            exact ih _ _ _ _ _ _ _ h hp (lv_sub hl [2, 1, 0] rfl)
          · have h := h.2 c4
            exact K27 _ _ _ _ h hp (lv_sub hl [] rfl)
def wp_X7_isKindOf (x0 : Int32) (x1 : Int32) (I : II) (Q : Int32 → II → Prop) : Prop := (∃ n101, wp_X7_isKindOf_4 Q (fun I => (Q (nI 1) I)) (fun I => (Q (nI 0) I)) n101 x1 x0 (nI 0) I)
set_option maxHeartbeats 4000000 in
set_option maxRecDepth 100000 in
theorem w_X7_isKindOf_0 {E : EE} {p : Program} {l : Launch} {e : Env} {s : State} {m : MethodId} {args : Array Value} {below : List Frame} {meth : Method} {c : Code} {Q : Int32 → II → Prop} (X : CX E p s m args meth c cX7_isKindOf 4 (some .boolean) RX7) : ∀ (x0 : Int32) (x1 : Int32) (I : II) (H : Heap) (locs : List Loc) (ls : Array Slot), wp_X7_isKindOf x0 x1 I Q → PP E s H locs I → lv_has ls 4 [(0, .int x0), (1, .int x1)] → W p l e rmX7_isKindOf s m args below meth c H locs 0 0 (MQ below (va_Qi Q (BU E) E.2.2.2.1) args s 0 0 E.2.2.2.1) (F0 m 0 ls []) := by
  obtain ⟨⟨hx, hb, hml, hown, hts⟩, hr, hlk, hK, hST, hN⟩ := id X
  intro x0 x1 I H locs ls h hp hl
  unfold wp_X7_isKindOf at h
  refine lv_iload_n hx hb dX7_isKindOf_0 rfl (lv_at hl 0 rfl) ?_
  refine lv_istore_n (lv' := [(2, .int x0), (0, .int x0), (1, .int x1)]) hx hb dX7_isKindOf_1 rfl hl (by decide) rfl (fun ls hl => ?_)
  refine lv_iconst (v := (nI 0)) hx hb dX7_isKindOf_2 (by decide) ?_
  refine lv_istore_n (lv' := [(3, .int (nI 0)), (2, .int x0), (0, .int x0), (1, .int x1)]) hx hb dX7_isKindOf_3 rfl hl (by decide) rfl (fun ls hl => ?_)
  obtain ⟨n101, h⟩ := h
  refine w_X7_isKindOf_4 X ?_ ?_ n101 _ _ _ _ _ _ _ h hp (lv_sub hl [3, 1, 0] rfl)
  · intro I H locs ls h hp hl
    refine lv_iconst (v := (nI 1)) hx hb dX7_isKindOf_27 (by decide) ?_
    exact rt_z X hp ⟨Or.inr rfl, h⟩ dX7_isKindOf_28
  · intro I H locs ls h hp hl
    refine lv_iconst (v := (nI 0)) hx hb dX7_isKindOf_41 (by decide) ?_
    exact rt_z X hp ⟨Or.inl rfl, h⟩ dX7_isKindOf_42
set_option maxRecDepth 100000 in
theorem C_X7_isKindOf {E : EE} {l : Launch} {x0 : Int32} {x1 : Int32} {I : II} {Q : Int32 → II → Prop} (h : wp_X7_isKindOf x0 x1 I Q) : Met l yX7_isKindOf (Cond.code yX7_isKindOf cX7_isKindOf 4 (some .boolean) :: lwT) rmX7_isKindOf (va_Pc [.int x0, .int x1] (PU E I)) (va_Qi Q (BU E) E.2.2.2.1) 0 0 E.2.2.2.1 :=
  ofWalk [.int x0, .int x1] (by decide) tw_c_X7_isKindOf (Nat.le_of_ble_eq_true rfl) (fun p e s m below meth c ls X hp hl => w_X7_isKindOf_0 X _ _ _ _ _ _ h hp hl)
abbrev rmX7_as : Room := { frames := 1, cells := 0, slots := 0, locals := 23 }
theorem vf_X7_as : VF yX7_as RX7 cX7_as 3 (some .int) 2 := ⟨tw_in_X7, tw_im_X7_as, tw_se_X7_as, tw_c_X7_as, by decide, by decide, by decide +kernel⟩
def wp_X7_as (x1 : Int32) (x2 : Int32) (I : II) (Q : Int32 → II → Prop) : Prop := (wp_X1_hasTeller 0 x1 I (fun r2 I1 => ((r2 = 0 → (Q (-nI 1000001) I1)) ∧ (¬ r2 = 0 → ((x2 < 0 → (Q (-nI 1000001) I1)) ∧ (¬ x2 < 0 → ((x2 < (nI 6) → (vp_in x1 4 ∧ (wp_X7_isKindOf (I1 (8 * 0 + 1) x1.toNatClampNeg) x2 I1 (fun r8 I7 => ((r8 = 0 → (wp_X7_found (nI 3) I7 (fun r11 I10 => (Q r11 I10)))) ∧ (¬ r8 = 0 → (wp_X7_fine x1 I7 (fun r13 I12 => (Q r13 I12))))))))) ∧ (¬ x2 < (nI 6) → (Q (-nI 1000001) I1)))))))))
set_option maxHeartbeats 4000000 in
set_option maxRecDepth 100000 in
theorem w_X7_as_0 {E : EE} {p : Program} {l : Launch} {e : Env} {s : State} {m : MethodId} {args : Array Value} {below : List Frame} {meth : Method} {c : Code} {Q : Int32 → II → Prop} (X : CX E p s m args meth c cX7_as 3 (some .int) RX7) : ∀ (x1 : Int32) (x2 : Int32) (I : II) (H : Heap) (locs : List Loc) (ls : Array Slot), wp_X7_as x1 x2 I Q → PP E s H locs I → lv_has ls 3 [(0, .ref (E.2.1 296)), (1, .int x1), (2, .int x2)] → W p l e rmX7_as s m args below meth c H locs 0 0 (MQ below (va_Qi Q (BU E) E.2.2.2.1) args s 0 0 E.2.2.2.1) (F0 m 0 ls []) := by
  obtain ⟨⟨hx, hb, hml, hown, hts⟩, hr, hlk, hK, hST, hN⟩ := id X
  intro x1 x2 I H locs ls h hp hl
  unfold wp_X7_as at h
  refine lv_aload_n hx hb dX7_as_0 rfl (lv_at hl 0 rfl) ?_
  refine f_X7_26 X hp dX7_as_1 ?_
  refine lv_iload_n hx hb dX7_as_4 rfl (lv_at hl 1 rfl) ?_
  refine ki (kV (As := [.int x1]) (rest := []) X hp (C_X1_hasTeller (by decide) h) tw_ml_X7_155 vf_X1_hasTeller ⟨rfl, rfl, Nat.le_of_ble_eq_true rfl, Nat.le_of_ble_eq_true rfl⟩ (pr_rcvb X hp (by decide)) rfl hl.1 rfl (Nat.le_of_ble_eq_true rfl) dX7_as_5) hp (fun r2 I1 H locs h hp => ?_)
  refine lv_if_eq (tgt := 21) hx hb dX7_as_8 (by decide) (fun c3 => ?_) (fun c3 => ?_)
  · have h := h.1 c3
    refine lv_ldc (v := (-nI 1000001)) hx hb hown (hts _ tw_k_X7_66) dX7_as_21 ?_
    exact rt_i X hp h dX7_as_23
  · have h := h.2 c3
    refine lv_iload_n hx hb dX7_as_11 rfl (lv_at hl 2 rfl) ?_
    refine lv_if_lt (tgt := 21) hx hb dX7_as_12 (by decide) (fun c4 => ?_) (fun c4 => ?_)
    · have h := h.1 c4
      refine lv_ldc (v := (-nI 1000001)) hx hb hown (hts _ tw_k_X7_66) dX7_as_21 ?_
      exact rt_i X hp h dX7_as_23
    · have h := h.2 c4
      refine lv_iload_n hx hb dX7_as_15 rfl (lv_at hl 2 rfl) ?_
      refine lv_bipush (v := (nI 6)) hx hb dX7_as_16 (by decide) ?_
      refine lv_icmp_lt (tgt := 24) hx hb dX7_as_18 (by decide) (fun c5 => ?_) (fun c5 => ?_)
      · have h := h.1 c5
        refine lv_aload_n hx hb dX7_as_24 rfl (lv_at hl 0 rfl) ?_
        refine f_X7_26 X hp dX7_as_25 ?_
        refine f_X7_329 X hp (by decide) dX7_as_28 ?_
        refine lv_iload_n hx hb dX7_as_31 rfl (lv_at hl 1 rfl) ?_
        have hv6 := h.1
        have h := h.2
        refine al_i X hp (ar_1 (by decide)) hv6 dX7_as_32 ?_
        refine lv_iload_n hx hb dX7_as_33 rfl (lv_at hl 2 rfl) ?_
        refine ki (kS (As := [.int (I1 (8 * 0 + 1) x1.toNatClampNeg), .int x2]) (rest := []) X hp (C_X7_isKindOf  h) tw_ml_X7_332 sf_X7_isKindOf ⟨rfl, rfl, Nat.le_of_ble_eq_true rfl, Nat.le_of_ble_eq_true rfl⟩ rfl hl.1 rfl (Nat.le_of_ble_eq_true rfl) dX7_as_34) hp (fun r8 I7 H locs h hp => ?_)
        refine lv_if_eq (tgt := 48) hx hb dX7_as_37 (by decide) (fun c9 => ?_) (fun c9 => ?_)
        · have h := h.1 c9
          refine lv_aload_n hx hb dX7_as_48 rfl (lv_at hl 0 rfl) ?_
          refine lv_iconst (v := (nI 3)) hx hb dX7_as_49 (by decide) ?_
          refine ki (kV (As := [.int (nI 3)]) (rest := []) X hp (C_X7_found  h) tw_ml_X7_67 vf_X7_found ⟨rfl, rfl, Nat.le_of_ble_eq_true rfl, Nat.le_of_ble_eq_true rfl⟩ (pr_rcv X hp (k := 296) (by decide) (ob_296 _) (q := (RX7, TX7, 9)) rfl) rfl hl.1 rfl (Nat.le_of_ble_eq_true rfl) dX7_as_50) hp (fun r11 I10 H locs h hp => ?_)
          exact rt_i X hp h dX7_as_53
        · have h := h.2 c9
          refine lv_aload_n hx hb dX7_as_40 rfl (lv_at hl 0 rfl) ?_
          refine lv_iload_n hx hb dX7_as_41 rfl (lv_at hl 1 rfl) ?_
          refine ki (kV (As := [.int x1]) (rest := []) X hp (C_X7_fine  h) tw_ml_X7_75 vf_X7_fine ⟨rfl, rfl, Nat.le_of_ble_eq_true rfl, Nat.le_of_ble_eq_true rfl⟩ (pr_rcv X hp (k := 296) (by decide) (ob_296 _) (q := (RX7, TX7, 9)) rfl) rfl hl.1 rfl (Nat.le_of_ble_eq_true rfl) dX7_as_42) hp (fun r13 I12 H locs h hp => ?_)
          refine lv_goto (tgt := 53) hx hb dX7_as_45 (by decide) ?_
          exact rt_i X hp h dX7_as_53
      · have h := h.2 c5
        refine lv_ldc (v := (-nI 1000001)) hx hb hown (hts _ tw_k_X7_66) dX7_as_21 ?_
        exact rt_i X hp h dX7_as_23
set_option maxRecDepth 100000 in
theorem C_X7_as {E : EE} {l : Launch} {x1 : Int32} {x2 : Int32} {I : II} {Q : Int32 → II → Prop} (h : wp_X7_as x1 x2 I Q) : Met l yX7_as (Cond.code yX7_as cX7_as 3 (some .int) :: lwT) rmX7_as (va_Pc [.ref (E.2.1 296), .int x1, .int x2] (PU E I)) (va_Qi Q (BU E) E.2.2.2.1) 0 0 E.2.2.2.1 :=
  ofWalk [.ref (E.2.1 296), .int x1, .int x2] (by decide) tw_c_X7_as (Nat.le_of_ble_eq_true rfl) (fun p e s m below meth c ls X hp hl => w_X7_as_0 X _ _ _ _ _ _ h hp hl)
abbrev rmX7_ask : Room := { frames := 50, cells := 0, slots := 0, locals := 1927 }
theorem vf_X7_ask : VF yX7_ask RX7 cX7_ask 3 (some .int) 2 := ⟨tw_in_X7, tw_im_X7_ask, tw_se_X7_ask, tw_c_X7_ask, by decide, by decide, by decide +kernel⟩
def wp_X7_ask (x1 : Int32) (x2 : Int32) (I : II) (Q : Int32 → II → Prop) : Prop := (wp_X1_hasTeller 0 x1 I (fun r2 I1 => ((r2 = 0 → (Q (-nI 1000001) I1)) ∧ (¬ r2 = 0 → (wp_X7_isChoice x2 I1 (fun r5 I4 => ((¬ r5 = 0 → (wp_X0_begin 0 x1 x2 I4 (fun r8 I7 => (Q r8 I7)))) ∧ (r5 = 0 → (Q (-nI 1000001) I4)))))))))
set_option maxHeartbeats 4000000 in
set_option maxRecDepth 100000 in
theorem w_X7_ask_0 {E : EE} {p : Program} {l : Launch} {e : Env} {s : State} {m : MethodId} {args : Array Value} {below : List Frame} {meth : Method} {c : Code} {Q : Int32 → II → Prop} (X : CX E p s m args meth c cX7_ask 3 (some .int) RX7) : ∀ (x1 : Int32) (x2 : Int32) (I : II) (H : Heap) (locs : List Loc) (ls : Array Slot), wp_X7_ask x1 x2 I Q → PP E s H locs I → lv_has ls 3 [(0, .ref (E.2.1 296)), (1, .int x1), (2, .int x2)] → W p l e rmX7_ask s m args below meth c H locs 0 0 (MQ below (va_Qi Q (BU E) E.2.2.2.1) args s 0 0 E.2.2.2.1) (F0 m 0 ls []) := by
  obtain ⟨⟨hx, hb, hml, hown, hts⟩, hr, hlk, hK, hST, hN⟩ := id X
  intro x1 x2 I H locs ls h hp hl
  unfold wp_X7_ask at h
  refine lv_aload_n hx hb dX7_ask_0 rfl (lv_at hl 0 rfl) ?_
  refine f_X7_26 X hp dX7_ask_1 ?_
  refine lv_iload_n hx hb dX7_ask_4 rfl (lv_at hl 1 rfl) ?_
  refine ki (kV (As := [.int x1]) (rest := []) X hp (C_X1_hasTeller (by decide) h) tw_ml_X7_155 vf_X1_hasTeller ⟨rfl, rfl, Nat.le_of_ble_eq_true rfl, Nat.le_of_ble_eq_true rfl⟩ (pr_rcvb X hp (by decide)) rfl hl.1 rfl (Nat.le_of_ble_eq_true rfl) dX7_ask_5) hp (fun r2 I1 H locs h hp => ?_)
  refine lv_if_eq (tgt := 18) hx hb dX7_ask_8 (by decide) (fun c3 => ?_) (fun c3 => ?_)
  · have h := h.1 c3
    refine lv_ldc (v := (-nI 1000001)) hx hb hown (hts _ tw_k_X7_66) dX7_ask_18 ?_
    exact rt_i X hp h dX7_ask_20
  · have h := h.2 c3
    refine lv_iload_n hx hb dX7_ask_11 rfl (lv_at hl 2 rfl) ?_
    refine ki (kS (As := [.int x2]) (rest := []) X hp (C_X7_isChoice  h) tw_ml_X7_158 sf_X7_isChoice ⟨rfl, rfl, Nat.le_of_ble_eq_true rfl, Nat.le_of_ble_eq_true rfl⟩ rfl hl.1 rfl (Nat.le_of_ble_eq_true rfl) dX7_ask_12) hp (fun r5 I4 H locs h hp => ?_)
    refine lv_if_ne (tgt := 21) hx hb dX7_ask_15 (by decide) (fun c6 => ?_) (fun c6 => ?_)
    · have h := h.1 c6
      refine lv_aload_n hx hb dX7_ask_21 rfl (lv_at hl 0 rfl) ?_
      refine f_X7_58 X hp dX7_ask_22 ?_
      refine lv_aload_n hx hb dX7_ask_25 rfl (lv_at hl 0 rfl) ?_
      refine f_X7_26 X hp dX7_ask_26 ?_
      refine lv_iload_n hx hb dX7_ask_29 rfl (lv_at hl 1 rfl) ?_
      refine lv_iload_n hx hb dX7_ask_30 rfl (lv_at hl 2 rfl) ?_
      refine ki (kV (As := [.ref (E.2.1 (8 * 0)), .int x1, .int x2]) (rest := []) X hp (C_X0_begin (by decide) h) tw_ml_X7_336 vf_X0_begin ⟨rfl, rfl, Nat.le_of_ble_eq_true rfl, Nat.le_of_ble_eq_true rfl⟩ (pr_rcv X hp (k := 313) (by decide) (ob_313 _) (q := (RX0, TX0, 2)) rfl) rfl hl.1 rfl (Nat.le_of_ble_eq_true rfl) dX7_ask_31) hp (fun r8 I7 H locs h hp => ?_)
      exact rt_i X hp h dX7_ask_34
    · have h := h.2 c6
      refine lv_ldc (v := (-nI 1000001)) hx hb hown (hts _ tw_k_X7_66) dX7_ask_18 ?_
      exact rt_i X hp h dX7_ask_20
set_option maxRecDepth 100000 in
theorem C_X7_ask {E : EE} {l : Launch} {x1 : Int32} {x2 : Int32} {I : II} {Q : Int32 → II → Prop} (h : wp_X7_ask x1 x2 I Q) : Met l yX7_ask (Cond.code yX7_ask cX7_ask 3 (some .int) :: lwT) rmX7_ask (va_Pc [.ref (E.2.1 296), .int x1, .int x2] (PU E I)) (va_Qi Q (BU E) E.2.2.2.1) 0 0 E.2.2.2.1 :=
  ofWalk [.ref (E.2.1 296), .int x1, .int x2] (by decide) tw_c_X7_ask (Nat.le_of_ble_eq_true rfl) (fun p e s m below meth c ls X hp hl => w_X7_ask_0 X _ _ _ _ _ _ h hp hl)
abbrev rmX7_trace : Room := { frames := 1, cells := 0, slots := 0, locals := 21 }
theorem vf_X7_trace : VF yX7_trace RX7 cX7_trace 2 (some .int) 1 := ⟨tw_in_X7, tw_im_X7_trace, tw_se_X7_trace, tw_c_X7_trace, by decide, by decide, by decide +kernel⟩
def wp_X7_trace (x1 : Int32) (I : II) (Q : Int32 → II → Prop) : Prop := (wp_X0_traceAt x1 I (fun r2 I1 => (Q r2 I1)))
set_option maxHeartbeats 4000000 in
set_option maxRecDepth 100000 in
theorem w_X7_trace_0 {E : EE} {p : Program} {l : Launch} {e : Env} {s : State} {m : MethodId} {args : Array Value} {below : List Frame} {meth : Method} {c : Code} {Q : Int32 → II → Prop} (X : CX E p s m args meth c cX7_trace 2 (some .int) RX7) : ∀ (x1 : Int32) (I : II) (H : Heap) (locs : List Loc) (ls : Array Slot), wp_X7_trace x1 I Q → PP E s H locs I → lv_has ls 2 [(0, .ref (E.2.1 296)), (1, .int x1)] → W p l e rmX7_trace s m args below meth c H locs 0 0 (MQ below (va_Qi Q (BU E) E.2.2.2.1) args s 0 0 E.2.2.2.1) (F0 m 0 ls []) := by
  obtain ⟨⟨hx, hb, hml, hown, hts⟩, hr, hlk, hK, hST, hN⟩ := id X
  intro x1 I H locs ls h hp hl
  unfold wp_X7_trace at h
  refine lv_aload_n hx hb dX7_trace_0 rfl (lv_at hl 0 rfl) ?_
  refine f_X7_58 X hp dX7_trace_1 ?_
  refine lv_iload_n hx hb dX7_trace_4 rfl (lv_at hl 1 rfl) ?_
  refine ki (kV (As := [.int x1]) (rest := []) X hp (C_X0_traceAt  h) tw_ml_X7_340 vf_X0_traceAt ⟨rfl, rfl, Nat.le_of_ble_eq_true rfl, Nat.le_of_ble_eq_true rfl⟩ (pr_rcv X hp (k := 313) (by decide) (ob_313 _) (q := (RX0, TX0, 2)) rfl) rfl hl.1 rfl (Nat.le_of_ble_eq_true rfl) dX7_trace_5) hp (fun r2 I1 H locs h hp => ?_)
  exact rt_i X hp h dX7_trace_8
set_option maxRecDepth 100000 in
theorem C_X7_trace {E : EE} {l : Launch} {x1 : Int32} {I : II} {Q : Int32 → II → Prop} (h : wp_X7_trace x1 I Q) : Met l yX7_trace (Cond.code yX7_trace cX7_trace 2 (some .int) :: lwT) rmX7_trace (va_Pc [.ref (E.2.1 296), .int x1] (PU E I)) (va_Qi Q (BU E) E.2.2.2.1) 0 0 E.2.2.2.1 :=
  ofWalk [.ref (E.2.1 296), .int x1] (by decide) tw_c_X7_trace (Nat.le_of_ble_eq_true rfl) (fun p e s m below meth c ls X hp hl => w_X7_trace_0 X _ _ _ _ _ h hp hl)
abbrev rmX7_count : Room := { frames := 3, cells := 0, slots := 0, locals := 63 }
theorem vf_X7_count : VF yX7_count RX7 cX7_count 2 (some .int) 1 := ⟨tw_in_X7, tw_im_X7_count, tw_se_X7_count, tw_c_X7_count, by decide, by decide, by decide +kernel⟩
def wp_X7_count (x1 : Int32) (I : II) (Q : Int32 → II → Prop) : Prop := ((x1 = (nI 0) → (wp_X4_amount I (fun r3 I2 => (Q r3 I2)))) ∧ (x1 = (nI 1) → (Q (I (8 * 0) 2) I)) ∧ (x1 = (nI 2) → (Q (I (8 * 0) 7) I)) ∧ (x1 = (nI 3) → (Q (I (8 * 0) 4) I)) ∧ (x1 = (nI 4) → (Q (I (8 * 0) 5) I)) ∧ (x1 = (nI 5) → (Q (I (8 * 0) 6) I)) ∧ (x1 = (nI 6) → (Q (I 303 2) I)) ∧ (x1 = (nI 7) → (Q (I 301 2) I)) ∧ (¬ x1 = (nI 0) → ¬ x1 = (nI 1) → ¬ x1 = (nI 2) → ¬ x1 = (nI 3) → ¬ x1 = (nI 4) → ¬ x1 = (nI 5) → ¬ x1 = (nI 6) → ¬ x1 = (nI 7) → (Q (-nI 1000001) I)))
set_option maxHeartbeats 4000000 in
set_option maxRecDepth 100000 in
theorem w_X7_count_0 {E : EE} {p : Program} {l : Launch} {e : Env} {s : State} {m : MethodId} {args : Array Value} {below : List Frame} {meth : Method} {c : Code} {Q : Int32 → II → Prop} (X : CX E p s m args meth c cX7_count 2 (some .int) RX7) : ∀ (x1 : Int32) (I : II) (H : Heap) (locs : List Loc) (ls : Array Slot), wp_X7_count x1 I Q → PP E s H locs I → lv_has ls 2 [(0, .ref (E.2.1 296)), (1, .int x1)] → W p l e rmX7_count s m args below meth c H locs 0 0 (MQ below (va_Qi Q (BU E) E.2.2.2.1) args s 0 0 E.2.2.2.1) (F0 m 0 ls []) := by
  obtain ⟨⟨hx, hb, hml, hown, hts⟩, hr, hlk, hK, hST, hN⟩ := id X
  intro x1 I H locs ls h hp hl
  unfold wp_X7_count at h
  refine lv_iload_n hx hb dX7_count_0 rfl (lv_at hl 1 rfl) ?_
  by_cases c1 : x1 = (nI 0)
  · have h := h.1 c1
    refine lv_tableIn (off := 47) (tgt := 48) hx hb dX7_count_1 (by rw [c1]; decide) (by rw [c1]; decide) (by rw [c1]; rfl) (by decide) ?_
    refine lv_aload_n hx hb dX7_count_48 rfl (lv_at hl 0 rfl) ?_
    refine f_X7_10 X hp dX7_count_49 ?_
    refine ki (kV (As := []) (rest := []) X hp (C_X4_amount  h) tw_ml_X7_343 vf_X4_amount ⟨rfl, rfl, Nat.le_of_ble_eq_true rfl, Nat.le_of_ble_eq_true rfl⟩ (pr_rcv X hp (k := 297) (by decide) (ob_297 _) (q := (RX4, TX4, 3)) rfl) rfl hl.1 rfl (Nat.le_of_ble_eq_true rfl) dX7_count_52) hp (fun r3 I2 H locs h hp => ?_)
    exact rt_i X hp h dX7_count_55
  have h := h.2
  by_cases c4 : x1 = (nI 1)
  · have h := h.1 c4
    refine lv_tableIn (off := 55) (tgt := 56) hx hb dX7_count_1 (by rw [c4]; decide) (by rw [c4]; decide) (by rw [c4]; rfl) (by decide) ?_
    refine lv_aload_n hx hb dX7_count_56 rfl (lv_at hl 0 rfl) ?_
    refine f_X7_26 X hp dX7_count_57 ?_
    refine f_X7_125 X hp (by decide) dX7_count_60 ?_
    exact rt_i X hp h dX7_count_63
  have h := h.2
  by_cases c5 : x1 = (nI 2)
  · have h := h.1 c5
    refine lv_tableIn (off := 63) (tgt := 64) hx hb dX7_count_1 (by rw [c5]; decide) (by rw [c5]; decide) (by rw [c5]; rfl) (by decide) ?_
    refine lv_aload_n hx hb dX7_count_64 rfl (lv_at hl 0 rfl) ?_
    refine f_X7_26 X hp dX7_count_65 ?_
    refine f_X7_152 X hp (by decide) dX7_count_68 ?_
    exact rt_i X hp h dX7_count_71
  have h := h.2
  by_cases c6 : x1 = (nI 3)
  · have h := h.1 c6
    refine lv_tableIn (off := 71) (tgt := 72) hx hb dX7_count_1 (by rw [c6]; decide) (by rw [c6]; decide) (by rw [c6]; rfl) (by decide) ?_
    refine lv_aload_n hx hb dX7_count_72 rfl (lv_at hl 0 rfl) ?_
    refine f_X7_26 X hp dX7_count_73 ?_
    refine f_X7_142 X hp (by decide) dX7_count_76 ?_
    exact rt_i X hp h dX7_count_79
  have h := h.2
  by_cases c7 : x1 = (nI 4)
  · have h := h.1 c7
    refine lv_tableIn (off := 79) (tgt := 80) hx hb dX7_count_1 (by rw [c7]; decide) (by rw [c7]; decide) (by rw [c7]; rfl) (by decide) ?_
    refine lv_aload_n hx hb dX7_count_80 rfl (lv_at hl 0 rfl) ?_
    refine f_X7_26 X hp dX7_count_81 ?_
    refine f_X7_346 X hp (by decide) dX7_count_84 ?_
    exact rt_i X hp h dX7_count_87
  have h := h.2
  by_cases c8 : x1 = (nI 5)
  · have h := h.1 c8
    refine lv_tableIn (off := 87) (tgt := 88) hx hb dX7_count_1 (by rw [c8]; decide) (by rw [c8]; decide) (by rw [c8]; rfl) (by decide) ?_
    refine lv_aload_n hx hb dX7_count_88 rfl (lv_at hl 0 rfl) ?_
    refine f_X7_26 X hp dX7_count_89 ?_
    refine f_X7_174 X hp (by decide) dX7_count_92 ?_
    exact rt_i X hp h dX7_count_95
  have h := h.2
  by_cases c9 : x1 = (nI 6)
  · have h := h.1 c9
    refine lv_tableIn (off := 95) (tgt := 96) hx hb dX7_count_1 (by rw [c9]; decide) (by rw [c9]; decide) (by rw [c9]; rfl) (by decide) ?_
    refine lv_aload_n hx hb dX7_count_96 rfl (lv_at hl 0 rfl) ?_
    refine f_X7_33 X hp dX7_count_97 ?_
    refine f_X7_131 X hp dX7_count_100 ?_
    exact rt_i X hp h dX7_count_103
  have h := h.2
  by_cases c10 : x1 = (nI 7)
  · have h := h.1 c10
    refine lv_tableIn (off := 103) (tgt := 104) hx hb dX7_count_1 (by rw [c10]; decide) (by rw [c10]; decide) (by rw [c10]; rfl) (by decide) ?_
    refine lv_aload_n hx hb dX7_count_104 rfl (lv_at hl 0 rfl) ?_
    refine f_X7_19 X hp dX7_count_105 ?_
    refine f_X7_105 X hp dX7_count_108 ?_
    exact rt_i X hp h dX7_count_111
  have h := h.2
  have h := h c1 c4 c5 c6 c7 c8 c9 c10
  have e11 : x1.toInt ≠ 0 := fun q => c1 (Int32.toInt_inj.mp (q.trans (by decide)))
  have e12 : x1.toInt ≠ 1 := fun q => c4 (Int32.toInt_inj.mp (q.trans (by decide)))
  have e13 : x1.toInt ≠ 2 := fun q => c5 (Int32.toInt_inj.mp (q.trans (by decide)))
  have e14 : x1.toInt ≠ 3 := fun q => c6 (Int32.toInt_inj.mp (q.trans (by decide)))
  have e15 : x1.toInt ≠ 4 := fun q => c7 (Int32.toInt_inj.mp (q.trans (by decide)))
  have e16 : x1.toInt ≠ 5 := fun q => c8 (Int32.toInt_inj.mp (q.trans (by decide)))
  have e17 : x1.toInt ≠ 6 := fun q => c9 (Int32.toInt_inj.mp (q.trans (by decide)))
  have e18 : x1.toInt ≠ 7 := fun q => c10 (Int32.toInt_inj.mp (q.trans (by decide)))
  refine lv_tableOut (tgt := 112) hx hb dX7_count_1 (by omega) (by decide) ?_
  refine lv_ldc (v := (-nI 1000001)) hx hb hown (hts _ tw_k_X7_66) dX7_count_112 ?_
  exact rt_i X hp h dX7_count_114
set_option maxRecDepth 100000 in
theorem C_X7_count {E : EE} {l : Launch} {x1 : Int32} {I : II} {Q : Int32 → II → Prop} (h : wp_X7_count x1 I Q) : Met l yX7_count (Cond.code yX7_count cX7_count 2 (some .int) :: lwT) rmX7_count (va_Pc [.ref (E.2.1 296), .int x1] (PU E I)) (va_Qi Q (BU E) E.2.2.2.1) 0 0 E.2.2.2.1 :=
  ofWalk [.ref (E.2.1 296), .int x1] (by decide) tw_c_X7_count (Nat.le_of_ble_eq_true rfl) (fun p e s m below meth c ls X hp hl => w_X7_count_0 X _ _ _ _ _ h hp hl)
abbrev rmX7_status : Room := { frames := 0, cells := 0, slots := 0, locals := 0 }
theorem vf_X7_status : VF yX7_status RX7 cX7_status 1 (some .int) 0 := ⟨tw_in_X7, tw_im_X7_status, tw_se_X7_status, tw_c_X7_status, by decide, by decide, by decide +kernel⟩
def wp_X7_status (I : II) (Q : Int32 → II → Prop) : Prop := (Q (I 296 8) I)
set_option maxHeartbeats 4000000 in
set_option maxRecDepth 100000 in
theorem w_X7_status_0 {E : EE} {p : Program} {l : Launch} {e : Env} {s : State} {m : MethodId} {args : Array Value} {below : List Frame} {meth : Method} {c : Code} {Q : Int32 → II → Prop} (X : CX E p s m args meth c cX7_status 1 (some .int) RX7) : ∀ (I : II) (H : Heap) (locs : List Loc) (ls : Array Slot), wp_X7_status I Q → PP E s H locs I → lv_has ls 1 [(0, .ref (E.2.1 296))] → W p l e rmX7_status s m args below meth c H locs 0 0 (MQ below (va_Qi Q (BU E) E.2.2.2.1) args s 0 0 E.2.2.2.1) (F0 m 0 ls []) := by
  obtain ⟨⟨hx, hb, hml, hown, hts⟩, hr, hlk, hK, hST, hN⟩ := id X
  intro I H locs ls h hp hl
  unfold wp_X7_status at h
  refine lv_aload_n hx hb dX7_status_0 rfl (lv_at hl 0 rfl) ?_
  refine f_X7_349 X hp dX7_status_1 ?_
  exact rt_i X hp h dX7_status_4
set_option maxRecDepth 100000 in
theorem C_X7_status {E : EE} {l : Launch} {I : II} {Q : Int32 → II → Prop} (h : wp_X7_status I Q) : Met l yX7_status (Cond.code yX7_status cX7_status 1 (some .int) :: lwT) rmX7_status (va_Pc [.ref (E.2.1 296)] (PU E I)) (va_Qi Q (BU E) E.2.2.2.1) 0 0 E.2.2.2.1 :=
  ofWalk [.ref (E.2.1 296)] (by decide) tw_c_X7_status (Nat.le_of_ble_eq_true rfl) (fun p e s m below meth c ls X hp hl => w_X7_status_0 X _ _ _ _ h hp hl)

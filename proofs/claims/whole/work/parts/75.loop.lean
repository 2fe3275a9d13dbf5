theorem lw_go {i L : Nat} (hi : i ≤ 4000) (hL : L ≤ 3584) (h : ¬ Int32.ofNat L - nI 7 < nI i) : i + 7 ≤ L := by
  by_cases c : 7 ≤ L
  · have e : Int32.ofNat L - nI 7 = nI (L - 7) := nIsub c
    rw [e, nIlt (by omega) (by omega)] at h
    omega
  · exfalso
    apply h
    have e : Int32.ofNat L - nI 7 = -nI (7 - L) := by
      have : L = 0 ∨ L = 1 ∨ L = 2 ∨ L = 3 ∨ L = 4 ∨ L = 5 ∨ L = 6 := by omega
      rcases this with rfl | rfl | rfl | rfl | rfl | rfl | rfl <;> decide
    rw [e, Int32.lt_iff_toInt_lt, sb_negT (by omega), nI_toInt (by omega)]
    omega
/-! THE CLAIM OUT OF ONE WALK OF THE LAW'S BODY. Your part is whole_start (and what it stands on); all else here is the same for every law, but numbers. -/
def R_law : String := "TellerDaysLaw"
def lw_P (b : Addr) (xs : List Int32) (args : Array Value) (s : State) : Prop := args = #[.ref b] ∧ s.IntsAt b xs ∧ xs.length ≤ 3584 ∧ (Jvm.Cond.and given_1 narrow_1).before args s = true
def lw_Q (_ : Array Value) (s : State) (o : Outcome) (t : State) : Prop := o = .returned (some (.int 1)) ∧ Framed s o t [] 600000 7302250
def lw_Z (below : List Frame) (a : Array Value) (s : State) : State → Prop := fun t => ∃ o, t.status = .running ∧ Ended t below o ∧ lw_Q a s o t
/-- the law's own end, with 1 on the stack, nothing written that was there before, its room as the claim has it -/
theorem lw_ret {p : Program} {l : Launch} {e : Env} {s : State} {m : MethodId} {below : List Frame} {meth : Method} {c : Code} {b : Nat} (hx : p.tables.exec = Jvm.exec) (hb : c.code = code) (hr : meth.sig.returnType = ret) (hlocks : meth.locks = false) {pc : Nat} {H : Heap} {ls : Array Slot} (hdg : decode code pc = .ok (.ireturn, 1)) : W p l e room_1 s m #[Value.ref b] below meth c H [] 600000 7302250 (lw_Z below #[Value.ref b] s) (F0 m pc ls [.int 1]) := by
  intro T hT X
  obtain ⟨fs, hret, hrun, hended, hW, hframe⟩ := X.leave (v := some (.int 1)) (hlocks := hlocks) (fun h => by rw [hr] at h; cases h)
  have hmeth' : T.vm.method? m = some meth := X.method'
  refine ⟨T.setFrames fs, ?_, .returned (some (.int 1)), hrun, hended, rfl, ⟨_, rfl⟩, hW, hframe⟩
  jvm_step X.here [X.here.top, hx, hb, hdg, hmeth', hr, ret, narrow_b1]
  (try refine ⟨rfl, ?_⟩); (try refine ⟨rfl, ?_⟩)
  first | (intro acts; rw [hret _ acts rfl rfl rfl]) | rw [hret _ _ rfl rfl rfl]
  exact Steps.refl _
/-- what holds at the law's entry: the machine, the code, the tables' words (any of lw_tbl by 'hts w (by decide +kernel)'), the script of L ints xs at the cell b, what the Statement gives of the start (any of its parts by flat_of_before) -/
def lw_At (p : Program) (s : State) (m : MethodId) (meth : Method) (c : Code) (b L : Nat) (xs : Nat → Int32) : Prop :=
  p.tables.exec = Jvm.exec ∧ c.code = code ∧ meth.sig.returnType = ret ∧ c.maxLocals = 4 ∧ s.vm.findClass R_law = some m.cls ∧ (∀ w ∈ lw_tbl, w.before #[Value.ref b] s = true) ∧ va_X b L xs s s.heap ∧ b < s.heap.size ∧ meth.locks = false ∧ (Jvm.Cond.and given_1 narrow_1).before #[Value.ref b] s = true
set_option maxHeartbeats 4000000 in
set_option maxRecDepth 100000 in
theorem law_loop {E : EE} {p : Program} {l : Launch} {e : Env} {s : State} {m : MethodId} {below : List Frame} {meth : Method} {c : Code} {cells slots b L : Nat} {xs : Nat → Int32} (X : CX E p s m #[Value.ref b] meth c cL_law 4 ret RL) (S : SC E.2.2.2.1 s b L xs) (hA : ∀ q, E.2.2.2.1 q → s.heap.size ≤ q) (hf : cells ≤ room_1.cells ∧ slots ≤ room_1.slots) : ∀ (d i : Nat) (I : II) (H : Heap) (locs : List Loc) (ls : Array Slot), L ≤ i + d → i ≤ 4000 → INV I → PP E s H locs I → lv_has ls 4 [(3, .int (nI i)), (2, .ref (E.2.1 315)), (1, .ref (E.2.1 296)), (0, .ref b)] → W p l e room_1 s m #[Value.ref b] below meth c H locs cells slots (lw_Z below #[Value.ref b] s) (F0 m 18 ls []) := by
  obtain ⟨⟨hx, hb, hml, hown, hts⟩, hr, hlk, hK, hST, hN⟩ := id X
  intro d
  induction d with
  | zero =>
    intro i I H locs ls hd hi hI hp hl
    refine lv_iload_n hx hb dL_law_18 rfl (lv_at hl 0 rfl) ?_
    refine lv_aload_n hx hb dL_law_19 rfl (lv_at hl 3 rfl) ?_
    refine va_slen hx hb S.1 S.2.1 S.2.2.1 hp.2.2 dL_law_20 ?_
    refine lv_bipush (v := (nI 7)) hx hb dL_law_21 (by decide) ?_
    refine lv_isub hx hb dL_law_23 ?_
    refine lv_icmp_gt (tgt := 1384) hx hb dL_law_24 (by decide) (fun _ => ?_) (fun q => absurd (lw_go hi S.2.2.2 q) (by omega))
    refine lv_iconst (v := 1) hx hb dL_law_1384 (by decide) ?_
    refine va_forget (fun q hq => hA q.base (hp.2.2.2.2 q hq)) ?_
    refine W.widen (k := 600000) (n := 7302250) hf.1 hf.2 ?_
    exact lw_ret hx hb hr hlk dL_law_1385
  | succ d ih =>
    intro i I H locs ls hd hi hI hp hl
    refine lv_iload_n hx hb dL_law_18 rfl (lv_at hl 0 rfl) ?_
    refine lv_aload_n hx hb dL_law_19 rfl (lv_at hl 3 rfl) ?_
    refine va_slen hx hb S.1 S.2.1 S.2.2.1 hp.2.2 dL_law_20 ?_
    refine lv_bipush (v := (nI 7)) hx hb dL_law_21 (by decide) ?_
    refine lv_isub hx hb dL_law_23 ?_
    refine lv_icmp_gt (tgt := 1384) hx hb dL_law_24 (by decide) (fun _ => ?_) (fun q => ?_)
    · refine lv_iconst (v := 1) hx hb dL_law_1384 (by decide) ?_
      refine va_forget (fun q hq => hA q.base (hp.2.2.2.2 q hq)) ?_
      refine W.widen (k := 600000) (n := 7302250) hf.1 hf.2 ?_
      exact lw_ret hx hb hr hlk dL_law_1385
    · have h7 := lw_go hi S.2.2.2 q
      refine lv_aload_n hx hb dL_law_27 rfl (lv_at hl 3 rfl) ?_
      refine lv_iload_n hx hb dL_law_28 rfl (lv_at hl 0 rfl) ?_
      refine va_sld hx hb S.1 S.2.1 S.2.2.1 hp.2.2 (show vp_in (nI i) L by rw [nIvp (by omega) (by have := S.2.2.2; omega)]; omega) dL_law_29 ?_
      refine lv_bipush (v := (nI 63)) hx hb dL_law_30 (by decide) ?_
      refine lv_iand hx hb dL_law_32 ?_
      have K : ∀ (J : II) (H1 : Heap) (locs1 : List Loc), INV J → PP E s H1 locs1 J → W p l e room_1 s m #[Value.ref b] below meth c H1 locs1 cells slots (lw_Z below #[Value.ref b] s) (F0 m 1378 ls []) := fun J H1 locs1 hJ hp => by
        refine lv_iinc (v := nI (i + 7)) (lv' := [(3, .int (nI (i + 7))), (2, .ref (E.2.1 315)), (1, .ref (E.2.1 296)), (0, .ref b)]) hx hb dL_law_1378 hl (k := 0) rfl (by rw [← nI_add]; rfl) (by decide) rfl (fun ls hl => ?_)
        refine lv_goto (tgt := 18) hx hb dL_law_1381 (by decide) ?_
        exact ih (i + 7) J _ _ ls (by omega) (by have := S.2.2.2; omega) hJ hp hl
      generalize (xs (nI i).toNatClampNeg &&& nI 63) = x
      by_cases c0 : x = (nI 0)
      · refine lv_tableIn (off := 179) (tgt := 212) hx hb dL_law_33 (by rw [c0]; decide) (by rw [c0]; decide) (by rw [c0]; rfl) (by decide) ?_
        exact lc_row X S h7 hf hI hp hl K
      by_cases c1 : x = (nI 1)
      · refine lv_tableIn (off := 222) (tgt := 255) hx hb dL_law_33 (by rw [c1]; decide) (by rw [c1]; decide) (by rw [c1]; rfl) (by decide) ?_
        exact lc_set X S h7 hf hI hp hl K
      by_cases c2 : x = (nI 2)
      · refine lv_tableIn (off := 265) (tgt := 298) hx hb dL_law_33 (by rw [c2]; decide) (by rw [c2]; decide) (by rw [c2]; rfl) (by decide) ?_
        exact lc_copy X S h7 hf hI hp hl K
      by_cases c3 : x = (nI 3)
      · refine lv_tableIn (off := 328) (tgt := 361) hx hb dL_law_33 (by rw [c3]; decide) (by rw [c3]; decide) (by rw [c3]; rfl) (by decide) ?_
        exact lc_drop X S h7 hf hI hp hl K
      by_cases c4 : x = (nI 4)
      · refine lv_tableIn (off := 351) (tgt := 384) hx hb dL_law_33 (by rw [c4]; decide) (by rw [c4]; decide) (by rw [c4]; rfl) (by decide) ?_
        exact lc_feed X S h7 hf hI hp hl K
      by_cases c5 : x = (nI 5)
      · refine lv_tableIn (off := 374) (tgt := 407) hx hb dL_law_33 (by rw [c5]; decide) (by rw [c5]; decide) (by rw [c5]; rfl) (by decide) ?_
        exact lc_bank X S h7 hf hI hp hl K
      by_cases c6 : x = (nI 6)
      · refine lv_tableIn (off := 387) (tgt := 420) hx hb dL_law_33 (by rw [c6]; decide) (by rw [c6]; decide) (by rw [c6]; rfl) (by decide) ?_
        exact lc_fault X S h7 hf hI hp hl K
      by_cases c7 : x = (nI 7)
      · refine lv_tableIn (off := 400) (tgt := 433) hx hb dL_law_33 (by rw [c7]; decide) (by rw [c7]; decide) (by rw [c7]; rfl) (by decide) ?_
        exact lc_undo X S h7 hf hI hp hl K
      by_cases c8 : x = (nI 8)
      · refine lv_tableIn (off := 413) (tgt := 446) hx hb dL_law_33 (by rw [c8]; decide) (by rw [c8]; decide) (by rw [c8]; rfl) (by decide) ?_
        exact lc_serve X S h7 hf hI hp hl K
      by_cases c9 : x = (nI 9)
      · refine lv_tableIn (off := 436) (tgt := 469) hx hb dL_law_33 (by rw [c9]; decide) (by rw [c9]; decide) (by rw [c9]; rfl) (by decide) ?_
        exact lc_counter X S h7 hf hI hp hl K
      by_cases c10 : x = (nI 10)
      · refine lv_tableIn (off := 469) (tgt := 502) hx hb dL_law_33 (by rw [c10]; decide) (by rw [c10]; decide) (by rw [c10]; rfl) (by decide) ?_
        exact lc_come X S h7 hf hI hp hl K
      by_cases c11 : x = (nI 11)
      · refine lv_tableIn (off := 502) (tgt := 535) hx hb dL_law_33 (by rw [c11]; decide) (by rw [c11]; decide) (by rw [c11]; rfl) (by decide) ?_
        exact lc_dismiss X S h7 hf hI hp hl K
      by_cases c12 : x = (nI 12)
      · refine lv_tableIn (off := 515) (tgt := 548) hx hb dL_law_33 (by rw [c12]; decide) (by rw [c12]; decide) (by rw [c12]; rfl) (by decide) ?_
        exact lc_swap X S h7 hf hI hp hl K
      by_cases c13 : x = (nI 13)
      · refine lv_tableIn (off := 528) (tgt := 561) hx hb dL_law_33 (by rw [c13]; decide) (by rw [c13]; decide) (by rw [c13]; rfl) (by decide) ?_
        exact lc_teller X S h7 hf hI hp hl K
      by_cases c14 : x = (nI 14)
      · refine lv_tableIn (off := 561) (tgt := 594) hx hb dL_law_33 (by rw [c14]; decide) (by rw [c14]; decide) (by rw [c14]; rfl) (by decide) ?_
        exact lc_paper X S h7 hf hI hp hl K
      by_cases c15 : x = (nI 15)
      · refine lv_tableIn (off := 594) (tgt := 627) hx hb dL_law_33 (by rw [c15]; decide) (by rw [c15]; decide) (by rw [c15]; rfl) (by decide) ?_
        exact lc_cost X S h7 hf hI hp hl K
      by_cases c16 : x = (nI 16)
      · refine lv_tableIn (off := 627) (tgt := 660) hx hb dL_law_33 (by rw [c16]; decide) (by rw [c16]; decide) (by rw [c16]; rfl) (by decide) ?_
        exact lc_queue X S h7 hf hI hp hl K
      by_cases c17 : x = (nI 17)
      · refine lv_tableIn (off := 650) (tgt := 683) hx hb dL_law_33 (by rw [c17]; decide) (by rw [c17]; decide) (by rw [c17]; rfl) (by decide) ?_
        exact lc_ahead X S h7 hf hI hp hl K
      by_cases c18 : x = (nI 18)
      · refine lv_tableIn (off := 683) (tgt := 716) hx hb dL_law_33 (by rw [c18]; decide) (by rw [c18]; decide) (by rw [c18]; rfl) (by decide) ?_
        exact lc_waiting X S h7 hf hI hp hl K
      by_cases c19 : x = (nI 19)
      · refine lv_tableIn (off := 706) (tgt := 739) hx hb dL_law_33 (by rw [c19]; decide) (by rw [c19]; decide) (by rw [c19]; rfl) (by decide) ?_
        exact lc_server X S h7 hf hI hp hl K
      by_cases c20 : x = (nI 20)
      · refine lv_tableIn (off := 729) (tgt := 762) hx hb dL_law_33 (by rw [c20]; decide) (by rw [c20]; decide) (by rw [c20]; rfl) (by decide) ?_
        exact lc_holds X S h7 hf hI hp hl K
      by_cases c21 : x = (nI 21)
      · refine lv_tableIn (off := 742) (tgt := 775) hx hb dL_law_33 (by rw [c21]; decide) (by rw [c21]; decide) (by rw [c21]; rfl) (by decide) ?_
        exact lc_infant X S h7 hf hI hp hl K
      by_cases c22 : x = (nI 22)
      · refine lv_tableIn (off := 755) (tgt := 788) hx hb dL_law_33 (by rw [c22]; decide) (by rw [c22]; decide) (by rw [c22]; rfl) (by decide) ?_
        exact lc_order X S h7 hf hI hp hl K
      by_cases c23 : x = (nI 23)
      · refine lv_tableIn (off := 778) (tgt := 811) hx hb dL_law_33 (by rw [c23]; decide) (by rw [c23]; decide) (by rw [c23]; rfl) (by decide) ?_
        exact lc_share X S h7 hf hI hp hl K
      by_cases c24 : x = (nI 24)
      · refine lv_tableIn (off := 801) (tgt := 834) hx hb dL_law_33 (by rw [c24]; decide) (by rw [c24]; decide) (by rw [c24]; rfl) (by decide) ?_
        exact lc_open X S h7 hf hI hp hl K
      by_cases c25 : x = (nI 25)
      · refine lv_tableIn (off := 824) (tgt := 857) hx hb dL_law_33 (by rw [c25]; decide) (by rw [c25]; decide) (by rw [c25]; rfl) (by decide) ?_
        exact lc_cheap X S h7 hf hI hp hl K
      by_cases c26 : x = (nI 26)
      · refine lv_tableIn (off := 857) (tgt := 890) hx hb dL_law_33 (by rw [c26]; decide) (by rw [c26]; decide) (by rw [c26]; rfl) (by decide) ?_
        exact lc_most X S h7 hf hI hp hl K
      by_cases c27 : x = (nI 27)
      · refine lv_tableIn (off := 870) (tgt := 903) hx hb dL_law_33 (by rw [c27]; decide) (by rw [c27]; decide) (by rw [c27]; rfl) (by decide) ?_
        exact lc_twins X S h7 hf hI hp hl K
      by_cases c28 : x = (nI 28)
      · refine lv_tableIn (off := 893) (tgt := 926) hx hb dL_law_33 (by rw [c28]; decide) (by rw [c28]; decide) (by rw [c28]; rfl) (by decide) ?_
        exact lc_who X S h7 hf hI hp hl K
      by_cases c29 : x = (nI 29)
      · refine lv_tableIn (off := 968) (tgt := 1001) hx hb dL_law_33 (by rw [c29]; decide) (by rw [c29]; decide) (by rw [c29]; rfl) (by decide) ?_
        exact lc_sums X S h7 hf hI hp hl K
      by_cases c30 : x = (nI 30)
      · refine lv_tableIn (off := 1021) (tgt := 1054) hx hb dL_law_33 (by rw [c30]; decide) (by rw [c30]; decide) (by rw [c30]; rfl) (by decide) ?_
        exact lc_stayed X S h7 hf hI hp hl K
      by_cases c31 : x = (nI 31)
      · refine lv_tableIn (off := 1074) (tgt := 1107) hx hb dL_law_33 (by rw [c31]; decide) (by rw [c31]; decide) (by rw [c31]; rfl) (by decide) ?_
        exact lc_away X S h7 hf hI hp hl K
      by_cases c32 : x = (nI 32)
      · refine lv_tableIn (off := 1108) (tgt := 1141) hx hb dL_law_33 (by rw [c32]; decide) (by rw [c32]; decide) (by rw [c32]; rfl) (by decide) ?_
        exact lc_drawn X S h7 hf hI hp hl K
      by_cases c33 : x = (nI 33)
      · refine lv_tableIn (off := 1151) (tgt := 1184) hx hb dL_law_33 (by rw [c33]; decide) (by rw [c33]; decide) (by rw [c33]; rfl) (by decide) ?_
        exact lc_image X S h7 hf hI hp hl K
      by_cases c34 : x = (nI 34)
      · refine lv_tableIn (off := 1174) (tgt := 1207) hx hb dL_law_33 (by rw [c34]; decide) (by rw [c34]; decide) (by rw [c34]; rfl) (by decide) ?_
        exact lc_restore X S h7 hf hI hp hl K
      by_cases c35 : x = (nI 35)
      · refine lv_tableIn (off := 1197) (tgt := 1230) hx hb dL_law_33 (by rw [c35]; decide) (by rw [c35]; decide) (by rw [c35]; rfl) (by decide) ?_
        exact lc_kind X S h7 hf hI hp hl K
      by_cases c36 : x = (nI 36)
      · refine lv_tableIn (off := 1220) (tgt := 1253) hx hb dL_law_33 (by rw [c36]; decide) (by rw [c36]; decide) (by rw [c36]; rfl) (by decide) ?_
        exact lc_as X S h7 hf hI hp hl K
      by_cases c37 : x = (nI 37)
      · refine lv_tableIn (off := 1253) (tgt := 1286) hx hb dL_law_33 (by rw [c37]; decide) (by rw [c37]; decide) (by rw [c37]; rfl) (by decide) ?_
        exact lc_ask X S h7 hf hI hp hl K
      by_cases c38 : x = (nI 38)
      · refine lv_tableIn (off := 1286) (tgt := 1319) hx hb dL_law_33 (by rw [c38]; decide) (by rw [c38]; decide) (by rw [c38]; rfl) (by decide) ?_
        exact lc_trace X S h7 hf hI hp hl K
      by_cases c39 : x = (nI 39)
      · refine lv_tableIn (off := 1309) (tgt := 1342) hx hb dL_law_33 (by rw [c39]; decide) (by rw [c39]; decide) (by rw [c39]; rfl) (by decide) ?_
        exact lc_count X S h7 hf hI hp hl K
      by_cases c40 : x = (nI 40)
      · refine lv_tableIn (off := 1332) (tgt := 1365) hx hb dL_law_33 (by rw [c40]; decide) (by rw [c40]; decide) (by rw [c40]; rfl) (by decide) ?_
        exact lc_status X S h7 hf hI hp hl K
      have e0 : x.toInt ≠ 0 := fun q => c0 (Int32.toInt_inj.mp (q.trans (by decide)))
      have e1 : x.toInt ≠ 1 := fun q => c1 (Int32.toInt_inj.mp (q.trans (by decide)))
      have e2 : x.toInt ≠ 2 := fun q => c2 (Int32.toInt_inj.mp (q.trans (by decide)))
      have e3 : x.toInt ≠ 3 := fun q => c3 (Int32.toInt_inj.mp (q.trans (by decide)))
      have e4 : x.toInt ≠ 4 := fun q => c4 (Int32.toInt_inj.mp (q.trans (by decide)))
      have e5 : x.toInt ≠ 5 := fun q => c5 (Int32.toInt_inj.mp (q.trans (by decide)))
      have e6 : x.toInt ≠ 6 := fun q => c6 (Int32.toInt_inj.mp (q.trans (by decide)))
      have e7 : x.toInt ≠ 7 := fun q => c7 (Int32.toInt_inj.mp (q.trans (by decide)))
      have e8 : x.toInt ≠ 8 := fun q => c8 (Int32.toInt_inj.mp (q.trans (by decide)))
      have e9 : x.toInt ≠ 9 := fun q => c9 (Int32.toInt_inj.mp (q.trans (by decide)))
      have e10 : x.toInt ≠ 10 := fun q => c10 (Int32.toInt_inj.mp (q.trans (by decide)))
      have e11 : x.toInt ≠ 11 := fun q => c11 (Int32.toInt_inj.mp (q.trans (by decide)))
      have e12 : x.toInt ≠ 12 := fun q => c12 (Int32.toInt_inj.mp (q.trans (by decide)))
      have e13 : x.toInt ≠ 13 := fun q => c13 (Int32.toInt_inj.mp (q.trans (by decide)))
      have e14 : x.toInt ≠ 14 := fun q => c14 (Int32.toInt_inj.mp (q.trans (by decide)))
      have e15 : x.toInt ≠ 15 := fun q => c15 (Int32.toInt_inj.mp (q.trans (by decide)))
      have e16 : x.toInt ≠ 16 := fun q => c16 (Int32.toInt_inj.mp (q.trans (by decide)))
      have e17 : x.toInt ≠ 17 := fun q => c17 (Int32.toInt_inj.mp (q.trans (by decide)))
      have e18 : x.toInt ≠ 18 := fun q => c18 (Int32.toInt_inj.mp (q.trans (by decide)))
      have e19 : x.toInt ≠ 19 := fun q => c19 (Int32.toInt_inj.mp (q.trans (by decide)))
      have e20 : x.toInt ≠ 20 := fun q => c20 (Int32.toInt_inj.mp (q.trans (by decide)))
      have e21 : x.toInt ≠ 21 := fun q => c21 (Int32.toInt_inj.mp (q.trans (by decide)))
      have e22 : x.toInt ≠ 22 := fun q => c22 (Int32.toInt_inj.mp (q.trans (by decide)))
      have e23 : x.toInt ≠ 23 := fun q => c23 (Int32.toInt_inj.mp (q.trans (by decide)))
      have e24 : x.toInt ≠ 24 := fun q => c24 (Int32.toInt_inj.mp (q.trans (by decide)))
      have e25 : x.toInt ≠ 25 := fun q => c25 (Int32.toInt_inj.mp (q.trans (by decide)))
      have e26 : x.toInt ≠ 26 := fun q => c26 (Int32.toInt_inj.mp (q.trans (by decide)))
      have e27 : x.toInt ≠ 27 := fun q => c27 (Int32.toInt_inj.mp (q.trans (by decide)))
      have e28 : x.toInt ≠ 28 := fun q => c28 (Int32.toInt_inj.mp (q.trans (by decide)))
      have e29 : x.toInt ≠ 29 := fun q => c29 (Int32.toInt_inj.mp (q.trans (by decide)))
      have e30 : x.toInt ≠ 30 := fun q => c30 (Int32.toInt_inj.mp (q.trans (by decide)))
      have e31 : x.toInt ≠ 31 := fun q => c31 (Int32.toInt_inj.mp (q.trans (by decide)))
      have e32 : x.toInt ≠ 32 := fun q => c32 (Int32.toInt_inj.mp (q.trans (by decide)))
      have e33 : x.toInt ≠ 33 := fun q => c33 (Int32.toInt_inj.mp (q.trans (by decide)))
      have e34 : x.toInt ≠ 34 := fun q => c34 (Int32.toInt_inj.mp (q.trans (by decide)))
      have e35 : x.toInt ≠ 35 := fun q => c35 (Int32.toInt_inj.mp (q.trans (by decide)))
      have e36 : x.toInt ≠ 36 := fun q => c36 (Int32.toInt_inj.mp (q.trans (by decide)))
      have e37 : x.toInt ≠ 37 := fun q => c37 (Int32.toInt_inj.mp (q.trans (by decide)))
      have e38 : x.toInt ≠ 38 := fun q => c38 (Int32.toInt_inj.mp (q.trans (by decide)))
      have e39 : x.toInt ≠ 39 := fun q => c39 (Int32.toInt_inj.mp (q.trans (by decide)))
      have e40 : x.toInt ≠ 40 := fun q => c40 (Int32.toInt_inj.mp (q.trans (by decide)))
      refine lv_tableOut (tgt := 1378) hx hb dL_law_33 (by omega) (by decide) ?_
      exact K _ _ _ hI hp

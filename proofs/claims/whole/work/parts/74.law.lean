/-! ===== the law: rows with cells in use ===== -/
section LAWR
variable {E : EE} {p : Program} {l : Launch} {e : Env} {R : Room} {s : State} {m : MethodId} {args : Array Value} {below : List Frame} {meth : Method} {c : Code} {H : Heap} {locs : List Loc} {Q : State → Prop} {cells slots : Nat}
variable {cc : ByteArray} {pc nL : Nat} {ls : Array Slot} {rest st0 : List Value} {rr : Option FieldType} {own : String} {I : II}
variable {y : MethodName} {C : String} {bytes : ByteArray} {maxL n index : Nat} {rt : Option FieldType} {rm : Room} {As : List Value} {b : Nat} {Qc : Array Value → State → Outcome → State → Prop}
theorem kV2 (X : CX E p s m args meth c cc nL rr own) (hp : PP E s H locs I) (M : Met l y (Cond.code y bytes maxL rt :: lwT) rm (va_Pc (.ref b :: As) (PU E I)) Qc 0 0 E.2.2.2.1) (hl : Cond.methodLink own index y ∈ lwT) (F : VF y C bytes maxL rt n) (hR : RMok rm R maxL) (hb : ∃ cell : Cell, H[b]? = some cell ∧ cell.vm.isStatics = false ∧ s.vm.findClass C = some cell.cls) (hn : As.length = n) (hls : ls.size = nL) (hst : st0 = As.reverse ++ .ref b :: rest) (hw : (rest.map fun v => v.category).sum ≤ 8) (hf : cells ≤ R.cells ∧ slots ≤ R.slots) (hdg : decode cc pc = .ok (.invokevirtual index, 3)) :
    va_Run p l e R s m args below meth c H locs cells slots 0 0 (F0 m pc ls st0) rest (Qc (Value.ref b :: As).toArray) E.2.2.2.1 :=
  va_runV X.1 M ⟨callB_of n X.1.2.2.2.2 (gT F.2.2.2.1) rfl hR.1 hR.2.1 (X.1.2.2.2.2 _ F.1) (X.1.2.2.2.2 _ hl) F.2.2.2.2 hR.2.2, X.1.2.2.2.2 _ F.2.1, X.1.2.2.2.2 _ F.2.2.1⟩ ⟨PU.blind, hb, fun U hU hW => ⟨rfl, hp.pu X U hU hW⟩⟩ rfl hn hls hst (lv_room hw) hdg hf
variable {av : Array Value}
theorem ki2 {Q' : Int32 → II → Prop} (hr : va_Run p l e R s m args below meth c H locs cells slots 0 0 (F0 m pc ls st0) rest (va_Qi Q' (BU E) E.2.2.2.1 av) E.2.2.2.1) (hp : PP E s H locs I) (kk : ∀ (r : Int32) (J : II) (H1 : Heap) (locs1 : List Loc), Q' r J → PP E s H1 locs1 J → W p l e R s m args below meth c H1 locs1 cells slots Q (F0 m (pc + 3) ls (.int r :: rest))) : W p l e R s m args below meth c H locs cells slots Q (F0 m pc ls st0) :=
  va_calli hr hp.2.2 (fun _ _ h => h) (fun _ h => h) (fun r u t H1 locs1 ht hvm hw hB hz1 hk1 hS => kk r u H1 locs1 hw ⟨by rw [← ht]; exact hB, pool_D hp.2.1 _, hS⟩)
theorem kl2 {Q' : Int64 → II → Prop} (hr : va_Run p l e R s m args below meth c H locs cells slots 0 0 (F0 m pc ls st0) rest (va_Ql Q' (BU E) E.2.2.2.1 av) E.2.2.2.1) (hp : PP E s H locs I) (kk : ∀ (r : Int64) (J : II) (H1 : Heap) (locs1 : List Loc), Q' r J → PP E s H1 locs1 J → W p l e R s m args below meth c H1 locs1 cells slots Q (F0 m (pc + 3) ls (.long r :: rest))) : W p l e R s m args below meth c H locs cells slots Q (F0 m pc ls st0) :=
  va_calll hr hp.2.2 (fun _ _ h => h) (fun _ h => h) (fun r u t H1 locs1 ht hvm hw hB hz1 hk1 hS => kk r u H1 locs1 hw ⟨by rw [← ht]; exact hB, pool_D hp.2.1 _, hS⟩)
end LAWR
theorem lg_self (x : Int64) : lg_cmp x x = 0 := by
  unfold lg_cmp
  rw [if_neg (fun h => by have := Int64.lt_iff_toInt_lt.mp h; omega), if_pos rfl]
/-- the script, which no cell of ours is -/
def SC (A : Nat → Prop) (s : State) (b L : Nat) (xs : Nat → Int32) : Prop := va_X b L xs s s.heap ∧ b < s.heap.size ∧ ¬ A b ∧ L ≤ 3584
theorem sc_in {i k L : Nat} (h : i + 7 ≤ L) (hL : L ≤ 3584) (hk : k ≤ 6) : vp_in (nI i + nI k) L := by
  rw [nI_add, nIvp (by omega) (by omega)]; omega
set_option maxHeartbeats 4000000 in
set_option maxRecDepth 100000 in
theorem lc_row {E : EE} {p : Program} {l : Launch} {e : Env} {s : State} {m : MethodId} {args : Array Value} {below : List Frame} {meth : Method} {c : Code} {Q : State → Prop} {cells slots : Nat} (X : CX E p s m args meth c cL_law 4 ret RL) {b L i : Nat} {xs : Nat → Int32} (S : SC E.2.2.2.1 s b L xs) (hi : i + 7 ≤ L) (hf : cells ≤ room_1.cells ∧ slots ≤ room_1.slots) {I : II} (hI : INV I) {H : Heap} {locs : List Loc} {ls : Array Slot} (hp : PP E s H locs I) (hl : lv_has ls 4 [(3, .int (nI i)), (2, .ref (E.2.1 315)), (1, .ref (E.2.1 296)), (0, .ref b)]) (K : ∀ (J : II) (H1 : Heap) (locs1 : List Loc), INV J → PP E s H1 locs1 J → W p l e room_1 s m args below meth c H1 locs1 cells slots Q (F0 m 1378 ls [])) : W p l e room_1 s m args below meth c H locs cells slots Q (F0 m 212 ls []) := by
  obtain ⟨⟨hx, hb, hml, hown, hts⟩, hr, hlk, hK, hST, hN⟩ := id X
  refine lv_aload_n hx hb dL_law_212 rfl (lv_at hl 2 rfl) ?_
  refine lv_aload_n hx hb dL_law_213 rfl (lv_at hl 3 rfl) ?_
  refine lv_iload_n hx hb dL_law_214 rfl (lv_at hl 0 rfl) ?_
  refine lv_iconst (v := (nI 1)) hx hb dL_law_215 (by decide) ?_
  refine lv_iadd hx hb dL_law_216 ?_
  refine va_sld hx hb S.1 S.2.1 S.2.2.1 hp.2.2 (sc_in hi S.2.2.2 (by omega)) dL_law_217 ?_
  refine lv_aload_n hx hb dL_law_218 rfl (lv_at hl 3 rfl) ?_
  refine lv_iload_n hx hb dL_law_219 rfl (lv_at hl 0 rfl) ?_
  refine lv_iconst (v := (nI 2)) hx hb dL_law_220 (by decide) ?_
  refine lv_iadd hx hb dL_law_221 ?_
  refine va_sld hx hb S.1 S.2.1 S.2.2.1 hp.2.2 (sc_in hi S.2.2.2 (by omega)) dL_law_222 ?_
  refine lv_aload_n hx hb dL_law_223 rfl (lv_at hl 3 rfl) ?_
  refine lv_iload_n hx hb dL_law_224 rfl (lv_at hl 0 rfl) ?_
  refine lv_iconst (v := (nI 3)) hx hb dL_law_225 (by decide) ?_
  refine lv_iadd hx hb dL_law_226 ?_
  refine va_sld hx hb S.1 S.2.1 S.2.2.1 hp.2.2 (sc_in hi S.2.2.2 (by omega)) dL_law_227 ?_
  refine ki2 (kV2 (As := [.int (xs (nI i + nI 1).toNatClampNeg), .int (xs (nI i + nI 2).toNatClampNeg), .int (xs (nI i + nI 3).toNatClampNeg)]) (rest := []) X hp (C_X7_row (s_row _ _ _ I hI)) tw_ml_L_13 vf_X7_row ⟨rfl, rfl, Nat.le_of_ble_eq_true rfl, Nat.le_of_ble_eq_true rfl⟩ (pr_rcv X hp (k := 296) (by decide) (ob_296 _) (q := (RX7, TX7, 9)) rfl) rfl hl.1 rfl (Nat.le_of_ble_eq_true rfl) hf dL_law_228) hp (fun r J H locs h hp => ?_)
  refine lv_aload_n hx hb dL_law_231 rfl (lv_at hl 1 rfl) ?_
  refine lv_aload_n hx hb dL_law_232 rfl (lv_at hl 3 rfl) ?_
  refine lv_iload_n hx hb dL_law_233 rfl (lv_at hl 0 rfl) ?_
  refine lv_iconst (v := (nI 1)) hx hb dL_law_234 (by decide) ?_
  refine lv_iadd hx hb dL_law_235 ?_
  refine va_sld hx hb S.1 S.2.1 S.2.2.1 hp.2.2 (sc_in hi S.2.2.2 (by omega)) dL_law_236 ?_
  refine lv_aload_n hx hb dL_law_237 rfl (lv_at hl 3 rfl) ?_
  refine lv_iload_n hx hb dL_law_238 rfl (lv_at hl 0 rfl) ?_
  refine lv_iconst (v := (nI 2)) hx hb dL_law_239 (by decide) ?_
  refine lv_iadd hx hb dL_law_240 ?_
  refine va_sld hx hb S.1 S.2.1 S.2.2.1 hp.2.2 (sc_in hi S.2.2.2 (by omega)) dL_law_241 ?_
  refine lv_aload_n hx hb dL_law_242 rfl (lv_at hl 3 rfl) ?_
  refine lv_iload_n hx hb dL_law_243 rfl (lv_at hl 0 rfl) ?_
  refine lv_iconst (v := (nI 3)) hx hb dL_law_244 (by decide) ?_
  refine lv_iadd hx hb dL_law_245 ?_
  refine va_sld hx hb S.1 S.2.1 S.2.2.1 hp.2.2 (sc_in hi S.2.2.2 (by omega)) dL_law_246 ?_
  refine ki2 (kV2 (As := [.int (xs (nI i + nI 1).toNatClampNeg), .int (xs (nI i + nI 2).toNatClampNeg), .int (xs (nI i + nI 3).toNatClampNeg)]) (rest := [.int r]) X hp (C_X8_row h) tw_ml_L_17 vf_X8_row ⟨rfl, rfl, Nat.le_of_ble_eq_true rfl, Nat.le_of_ble_eq_true rfl⟩ (pr_rcv X hp (k := 315) (by decide) (ob_315 _) (q := (RX8, TX8, 18)) rfl) rfl hl.1 rfl (Nat.le_of_ble_eq_true rfl) hf dL_law_247) hp (fun r' J H locs h hp => ?_)
  refine lv_icmp_eq (tgt := 1378) hx hb dL_law_250 (by decide) (fun _ => ?_) (fun q => absurd h.1 q)
  exact K _ _ _ h.2 hp
set_option maxHeartbeats 4000000 in
set_option maxRecDepth 100000 in
theorem lc_set {E : EE} {p : Program} {l : Launch} {e : Env} {s : State} {m : MethodId} {args : Array Value} {below : List Frame} {meth : Method} {c : Code} {Q : State → Prop} {cells slots : Nat} (X : CX E p s m args meth c cL_law 4 ret RL) {b L i : Nat} {xs : Nat → Int32} (S : SC E.2.2.2.1 s b L xs) (hi : i + 7 ≤ L) (hf : cells ≤ room_1.cells ∧ slots ≤ room_1.slots) {I : II} (hI : INV I) {H : Heap} {locs : List Loc} {ls : Array Slot} (hp : PP E s H locs I) (hl : lv_has ls 4 [(3, .int (nI i)), (2, .ref (E.2.1 315)), (1, .ref (E.2.1 296)), (0, .ref b)]) (K : ∀ (J : II) (H1 : Heap) (locs1 : List Loc), INV J → PP E s H1 locs1 J → W p l e room_1 s m args below meth c H1 locs1 cells slots Q (F0 m 1378 ls [])) : W p l e room_1 s m args below meth c H locs cells slots Q (F0 m 255 ls []) := by
  obtain ⟨⟨hx, hb, hml, hown, hts⟩, hr, hlk, hK, hST, hN⟩ := id X
  refine lv_aload_n hx hb dL_law_255 rfl (lv_at hl 2 rfl) ?_
  refine lv_aload_n hx hb dL_law_256 rfl (lv_at hl 3 rfl) ?_
  refine lv_iload_n hx hb dL_law_257 rfl (lv_at hl 0 rfl) ?_
  refine lv_iconst (v := (nI 1)) hx hb dL_law_258 (by decide) ?_
  refine lv_iadd hx hb dL_law_259 ?_
  refine va_sld hx hb S.1 S.2.1 S.2.2.1 hp.2.2 (sc_in hi S.2.2.2 (by omega)) dL_law_260 ?_
  refine lv_aload_n hx hb dL_law_261 rfl (lv_at hl 3 rfl) ?_
  refine lv_iload_n hx hb dL_law_262 rfl (lv_at hl 0 rfl) ?_
  refine lv_iconst (v := (nI 2)) hx hb dL_law_263 (by decide) ?_
  refine lv_iadd hx hb dL_law_264 ?_
  refine va_sld hx hb S.1 S.2.1 S.2.2.1 hp.2.2 (sc_in hi S.2.2.2 (by omega)) dL_law_265 ?_
  refine lv_aload_n hx hb dL_law_266 rfl (lv_at hl 3 rfl) ?_
  refine lv_iload_n hx hb dL_law_267 rfl (lv_at hl 0 rfl) ?_
  refine lv_iconst (v := (nI 3)) hx hb dL_law_268 (by decide) ?_
  refine lv_iadd hx hb dL_law_269 ?_
  refine va_sld hx hb S.1 S.2.1 S.2.2.1 hp.2.2 (sc_in hi S.2.2.2 (by omega)) dL_law_270 ?_
  refine ki2 (kV2 (As := [.int (xs (nI i + nI 1).toNatClampNeg), .int (xs (nI i + nI 2).toNatClampNeg), .int (xs (nI i + nI 3).toNatClampNeg)]) (rest := []) X hp (C_X7_set (s_set _ _ _ I hI)) tw_ml_L_18 vf_X7_set ⟨rfl, rfl, Nat.le_of_ble_eq_true rfl, Nat.le_of_ble_eq_true rfl⟩ (pr_rcv X hp (k := 296) (by decide) (ob_296 _) (q := (RX7, TX7, 9)) rfl) rfl hl.1 rfl (Nat.le_of_ble_eq_true rfl) hf dL_law_271) hp (fun r J H locs h hp => ?_)
  refine lv_aload_n hx hb dL_law_274 rfl (lv_at hl 1 rfl) ?_
  refine lv_aload_n hx hb dL_law_275 rfl (lv_at hl 3 rfl) ?_
  refine lv_iload_n hx hb dL_law_276 rfl (lv_at hl 0 rfl) ?_
  refine lv_iconst (v := (nI 1)) hx hb dL_law_277 (by decide) ?_
  refine lv_iadd hx hb dL_law_278 ?_
  refine va_sld hx hb S.1 S.2.1 S.2.2.1 hp.2.2 (sc_in hi S.2.2.2 (by omega)) dL_law_279 ?_
  refine lv_aload_n hx hb dL_law_280 rfl (lv_at hl 3 rfl) ?_
  refine lv_iload_n hx hb dL_law_281 rfl (lv_at hl 0 rfl) ?_
  refine lv_iconst (v := (nI 2)) hx hb dL_law_282 (by decide) ?_
  refine lv_iadd hx hb dL_law_283 ?_
  refine va_sld hx hb S.1 S.2.1 S.2.2.1 hp.2.2 (sc_in hi S.2.2.2 (by omega)) dL_law_284 ?_
  refine lv_aload_n hx hb dL_law_285 rfl (lv_at hl 3 rfl) ?_
  refine lv_iload_n hx hb dL_law_286 rfl (lv_at hl 0 rfl) ?_
  refine lv_iconst (v := (nI 3)) hx hb dL_law_287 (by decide) ?_
  refine lv_iadd hx hb dL_law_288 ?_
  refine va_sld hx hb S.1 S.2.1 S.2.2.1 hp.2.2 (sc_in hi S.2.2.2 (by omega)) dL_law_289 ?_
  refine ki2 (kV2 (As := [.int (xs (nI i + nI 1).toNatClampNeg), .int (xs (nI i + nI 2).toNatClampNeg), .int (xs (nI i + nI 3).toNatClampNeg)]) (rest := [.int r]) X hp (C_X8_set h) tw_ml_L_21 vf_X8_set ⟨rfl, rfl, Nat.le_of_ble_eq_true rfl, Nat.le_of_ble_eq_true rfl⟩ (pr_rcv X hp (k := 315) (by decide) (ob_315 _) (q := (RX8, TX8, 18)) rfl) rfl hl.1 rfl (Nat.le_of_ble_eq_true rfl) hf dL_law_290) hp (fun r' J H locs h hp => ?_)
  refine lv_icmp_eq (tgt := 1378) hx hb dL_law_293 (by decide) (fun _ => ?_) (fun q => absurd h.1 q)
  exact K _ _ _ h.2 hp
set_option maxHeartbeats 4000000 in
set_option maxRecDepth 100000 in
theorem lc_copy {E : EE} {p : Program} {l : Launch} {e : Env} {s : State} {m : MethodId} {args : Array Value} {below : List Frame} {meth : Method} {c : Code} {Q : State → Prop} {cells slots : Nat} (X : CX E p s m args meth c cL_law 4 ret RL) {b L i : Nat} {xs : Nat → Int32} (S : SC E.2.2.2.1 s b L xs) (hi : i + 7 ≤ L) (hf : cells ≤ room_1.cells ∧ slots ≤ room_1.slots) {I : II} (hI : INV I) {H : Heap} {locs : List Loc} {ls : Array Slot} (hp : PP E s H locs I) (hl : lv_has ls 4 [(3, .int (nI i)), (2, .ref (E.2.1 315)), (1, .ref (E.2.1 296)), (0, .ref b)]) (K : ∀ (J : II) (H1 : Heap) (locs1 : List Loc), INV J → PP E s H1 locs1 J → W p l e room_1 s m args below meth c H1 locs1 cells slots Q (F0 m 1378 ls [])) : W p l e room_1 s m args below meth c H locs cells slots Q (F0 m 298 ls []) := by
  obtain ⟨⟨hx, hb, hml, hown, hts⟩, hr, hlk, hK, hST, hN⟩ := id X
  refine lv_aload_n hx hb dL_law_298 rfl (lv_at hl 2 rfl) ?_
  refine lv_aload_n hx hb dL_law_299 rfl (lv_at hl 3 rfl) ?_
  refine lv_iload_n hx hb dL_law_300 rfl (lv_at hl 0 rfl) ?_
  refine lv_iconst (v := (nI 1)) hx hb dL_law_301 (by decide) ?_
  refine lv_iadd hx hb dL_law_302 ?_
  refine va_sld hx hb S.1 S.2.1 S.2.2.1 hp.2.2 (sc_in hi S.2.2.2 (by omega)) dL_law_303 ?_
  refine lv_aload_n hx hb dL_law_304 rfl (lv_at hl 3 rfl) ?_
  refine lv_iload_n hx hb dL_law_305 rfl (lv_at hl 0 rfl) ?_
  refine lv_iconst (v := (nI 2)) hx hb dL_law_306 (by decide) ?_
  refine lv_iadd hx hb dL_law_307 ?_
  refine va_sld hx hb S.1 S.2.1 S.2.2.1 hp.2.2 (sc_in hi S.2.2.2 (by omega)) dL_law_308 ?_
  refine lv_aload_n hx hb dL_law_309 rfl (lv_at hl 3 rfl) ?_
  refine lv_iload_n hx hb dL_law_310 rfl (lv_at hl 0 rfl) ?_
  refine lv_iconst (v := (nI 3)) hx hb dL_law_311 (by decide) ?_
  refine lv_iadd hx hb dL_law_312 ?_
  refine va_sld hx hb S.1 S.2.1 S.2.2.1 hp.2.2 (sc_in hi S.2.2.2 (by omega)) dL_law_313 ?_
  refine lv_aload_n hx hb dL_law_314 rfl (lv_at hl 3 rfl) ?_
  refine lv_iload_n hx hb dL_law_315 rfl (lv_at hl 0 rfl) ?_
  refine lv_iconst (v := (nI 4)) hx hb dL_law_316 (by decide) ?_
  refine lv_iadd hx hb dL_law_317 ?_
  refine va_sld hx hb S.1 S.2.1 S.2.2.1 hp.2.2 (sc_in hi S.2.2.2 (by omega)) dL_law_318 ?_
  refine lv_aload_n hx hb dL_law_319 rfl (lv_at hl 3 rfl) ?_
  refine lv_iload_n hx hb dL_law_320 rfl (lv_at hl 0 rfl) ?_
  refine lv_iconst (v := (nI 5)) hx hb dL_law_321 (by decide) ?_
  refine lv_iadd hx hb dL_law_322 ?_
  refine va_sld hx hb S.1 S.2.1 S.2.2.1 hp.2.2 (sc_in hi S.2.2.2 (by omega)) dL_law_323 ?_
  refine ki2 (kV2 (As := [.int (xs (nI i + nI 1).toNatClampNeg), .int (xs (nI i + nI 2).toNatClampNeg), .int (xs (nI i + nI 3).toNatClampNeg), .int (xs (nI i + nI 4).toNatClampNeg), .int (xs (nI i + nI 5).toNatClampNeg)]) (rest := []) X hp (C_X7_copy (s_copy _ _ _ _ _ I hI)) tw_ml_L_22 vf_X7_copy ⟨rfl, rfl, Nat.le_of_ble_eq_true rfl, Nat.le_of_ble_eq_true rfl⟩ (pr_rcv X hp (k := 296) (by decide) (ob_296 _) (q := (RX7, TX7, 9)) rfl) rfl hl.1 rfl (Nat.le_of_ble_eq_true rfl) hf dL_law_324) hp (fun r J H locs h hp => ?_)
  refine lv_aload_n hx hb dL_law_327 rfl (lv_at hl 1 rfl) ?_
  refine lv_aload_n hx hb dL_law_328 rfl (lv_at hl 3 rfl) ?_
  refine lv_iload_n hx hb dL_law_329 rfl (lv_at hl 0 rfl) ?_
  refine lv_iconst (v := (nI 1)) hx hb dL_law_330 (by decide) ?_
  refine lv_iadd hx hb dL_law_331 ?_
  refine va_sld hx hb S.1 S.2.1 S.2.2.1 hp.2.2 (sc_in hi S.2.2.2 (by omega)) dL_law_332 ?_
  refine lv_aload_n hx hb dL_law_333 rfl (lv_at hl 3 rfl) ?_
  refine lv_iload_n hx hb dL_law_334 rfl (lv_at hl 0 rfl) ?_
  refine lv_iconst (v := (nI 2)) hx hb dL_law_335 (by decide) ?_
  refine lv_iadd hx hb dL_law_336 ?_
  refine va_sld hx hb S.1 S.2.1 S.2.2.1 hp.2.2 (sc_in hi S.2.2.2 (by omega)) dL_law_337 ?_
  refine lv_aload_n hx hb dL_law_338 rfl (lv_at hl 3 rfl) ?_
  refine lv_iload_n hx hb dL_law_339 rfl (lv_at hl 0 rfl) ?_
  refine lv_iconst (v := (nI 3)) hx hb dL_law_340 (by decide) ?_
  refine lv_iadd hx hb dL_law_341 ?_
  refine va_sld hx hb S.1 S.2.1 S.2.2.1 hp.2.2 (sc_in hi S.2.2.2 (by omega)) dL_law_342 ?_
  refine lv_aload_n hx hb dL_law_343 rfl (lv_at hl 3 rfl) ?_
  refine lv_iload_n hx hb dL_law_344 rfl (lv_at hl 0 rfl) ?_
  refine lv_iconst (v := (nI 4)) hx hb dL_law_345 (by decide) ?_
  refine lv_iadd hx hb dL_law_346 ?_
  refine va_sld hx hb S.1 S.2.1 S.2.2.1 hp.2.2 (sc_in hi S.2.2.2 (by omega)) dL_law_347 ?_
  refine lv_aload_n hx hb dL_law_348 rfl (lv_at hl 3 rfl) ?_
  refine lv_iload_n hx hb dL_law_349 rfl (lv_at hl 0 rfl) ?_
  refine lv_iconst (v := (nI 5)) hx hb dL_law_350 (by decide) ?_
  refine lv_iadd hx hb dL_law_351 ?_
  refine va_sld hx hb S.1 S.2.1 S.2.2.1 hp.2.2 (sc_in hi S.2.2.2 (by omega)) dL_law_352 ?_
  refine ki2 (kV2 (As := [.int (xs (nI i + nI 1).toNatClampNeg), .int (xs (nI i + nI 2).toNatClampNeg), .int (xs (nI i + nI 3).toNatClampNeg), .int (xs (nI i + nI 4).toNatClampNeg), .int (xs (nI i + nI 5).toNatClampNeg)]) (rest := [.int r]) X hp (C_X8_copy h) tw_ml_L_26 vf_X8_copy ⟨rfl, rfl, Nat.le_of_ble_eq_true rfl, Nat.le_of_ble_eq_true rfl⟩ (pr_rcv X hp (k := 315) (by decide) (ob_315 _) (q := (RX8, TX8, 18)) rfl) rfl hl.1 rfl (Nat.le_of_ble_eq_true rfl) hf dL_law_353) hp (fun r' J H locs h hp => ?_)
  refine lv_icmp_eq (tgt := 1378) hx hb dL_law_356 (by decide) (fun _ => ?_) (fun q => absurd h.1 q)
  exact K _ _ _ h.2 hp
set_option maxHeartbeats 4000000 in
set_option maxRecDepth 100000 in
theorem lc_drop {E : EE} {p : Program} {l : Launch} {e : Env} {s : State} {m : MethodId} {args : Array Value} {below : List Frame} {meth : Method} {c : Code} {Q : State → Prop} {cells slots : Nat} (X : CX E p s m args meth c cL_law 4 ret RL) {b L i : Nat} {xs : Nat → Int32} (S : SC E.2.2.2.1 s b L xs) (hi : i + 7 ≤ L) (hf : cells ≤ room_1.cells ∧ slots ≤ room_1.slots) {I : II} (hI : INV I) {H : Heap} {locs : List Loc} {ls : Array Slot} (hp : PP E s H locs I) (hl : lv_has ls 4 [(3, .int (nI i)), (2, .ref (E.2.1 315)), (1, .ref (E.2.1 296)), (0, .ref b)]) (K : ∀ (J : II) (H1 : Heap) (locs1 : List Loc), INV J → PP E s H1 locs1 J → W p l e room_1 s m args below meth c H1 locs1 cells slots Q (F0 m 1378 ls [])) : W p l e room_1 s m args below meth c H locs cells slots Q (F0 m 361 ls []) := by
  obtain ⟨⟨hx, hb, hml, hown, hts⟩, hr, hlk, hK, hST, hN⟩ := id X
  refine lv_aload_n hx hb dL_law_361 rfl (lv_at hl 2 rfl) ?_
  refine lv_aload_n hx hb dL_law_362 rfl (lv_at hl 3 rfl) ?_
  refine lv_iload_n hx hb dL_law_363 rfl (lv_at hl 0 rfl) ?_
  refine lv_iconst (v := (nI 1)) hx hb dL_law_364 (by decide) ?_
  refine lv_iadd hx hb dL_law_365 ?_
  refine va_sld hx hb S.1 S.2.1 S.2.2.1 hp.2.2 (sc_in hi S.2.2.2 (by omega)) dL_law_366 ?_
  refine ki2 (kV2 (As := [.int (xs (nI i + nI 1).toNatClampNeg)]) (rest := []) X hp (C_X7_drop (s_drop _ I hI)) tw_ml_L_27 vf_X7_drop ⟨rfl, rfl, Nat.le_of_ble_eq_true rfl, Nat.le_of_ble_eq_true rfl⟩ (pr_rcv X hp (k := 296) (by decide) (ob_296 _) (q := (RX7, TX7, 9)) rfl) rfl hl.1 rfl (Nat.le_of_ble_eq_true rfl) hf dL_law_367) hp (fun r J H locs h hp => ?_)
  refine lv_aload_n hx hb dL_law_370 rfl (lv_at hl 1 rfl) ?_
  refine lv_aload_n hx hb dL_law_371 rfl (lv_at hl 3 rfl) ?_
  refine lv_iload_n hx hb dL_law_372 rfl (lv_at hl 0 rfl) ?_
  refine lv_iconst (v := (nI 1)) hx hb dL_law_373 (by decide) ?_
  refine lv_iadd hx hb dL_law_374 ?_
  refine va_sld hx hb S.1 S.2.1 S.2.2.1 hp.2.2 (sc_in hi S.2.2.2 (by omega)) dL_law_375 ?_
  refine ki2 (kV2 (As := [.int (xs (nI i + nI 1).toNatClampNeg)]) (rest := [.int r]) X hp (C_X8_drop h) tw_ml_L_31 vf_X8_drop ⟨rfl, rfl, Nat.le_of_ble_eq_true rfl, Nat.le_of_ble_eq_true rfl⟩ (pr_rcv X hp (k := 315) (by decide) (ob_315 _) (q := (RX8, TX8, 18)) rfl) rfl hl.1 rfl (Nat.le_of_ble_eq_true rfl) hf dL_law_376) hp (fun r' J H locs h hp => ?_)
  refine lv_icmp_eq (tgt := 1378) hx hb dL_law_379 (by decide) (fun _ => ?_) (fun q => absurd h.1 q)
  exact K _ _ _ h.2 hp
set_option maxHeartbeats 4000000 in
set_option maxRecDepth 100000 in
theorem lc_feed {E : EE} {p : Program} {l : Launch} {e : Env} {s : State} {m : MethodId} {args : Array Value} {below : List Frame} {meth : Method} {c : Code} {Q : State → Prop} {cells slots : Nat} (X : CX E p s m args meth c cL_law 4 ret RL) {b L i : Nat} {xs : Nat → Int32} (S : SC E.2.2.2.1 s b L xs) (hi : i + 7 ≤ L) (hf : cells ≤ room_1.cells ∧ slots ≤ room_1.slots) {I : II} (hI : INV I) {H : Heap} {locs : List Loc} {ls : Array Slot} (hp : PP E s H locs I) (hl : lv_has ls 4 [(3, .int (nI i)), (2, .ref (E.2.1 315)), (1, .ref (E.2.1 296)), (0, .ref b)]) (K : ∀ (J : II) (H1 : Heap) (locs1 : List Loc), INV J → PP E s H1 locs1 J → W p l e room_1 s m args below meth c H1 locs1 cells slots Q (F0 m 1378 ls [])) : W p l e room_1 s m args below meth c H locs cells slots Q (F0 m 384 ls []) := by
  obtain ⟨⟨hx, hb, hml, hown, hts⟩, hr, hlk, hK, hST, hN⟩ := id X
  refine lv_aload_n hx hb dL_law_384 rfl (lv_at hl 2 rfl) ?_
  refine lv_aload_n hx hb dL_law_385 rfl (lv_at hl 3 rfl) ?_
  refine lv_iload_n hx hb dL_law_386 rfl (lv_at hl 0 rfl) ?_
  refine lv_iconst (v := (nI 1)) hx hb dL_law_387 (by decide) ?_
  refine lv_iadd hx hb dL_law_388 ?_
  refine va_sld hx hb S.1 S.2.1 S.2.2.1 hp.2.2 (sc_in hi S.2.2.2 (by omega)) dL_law_389 ?_
  refine ki2 (kV2 (As := [.int (xs (nI i + nI 1).toNatClampNeg)]) (rest := []) X hp (C_X7_feed (s_feed _ I hI)) tw_ml_L_32 vf_X7_feed ⟨rfl, rfl, Nat.le_of_ble_eq_true rfl, Nat.le_of_ble_eq_true rfl⟩ (pr_rcv X hp (k := 296) (by decide) (ob_296 _) (q := (RX7, TX7, 9)) rfl) rfl hl.1 rfl (Nat.le_of_ble_eq_true rfl) hf dL_law_390) hp (fun r J H locs h hp => ?_)
  refine lv_aload_n hx hb dL_law_393 rfl (lv_at hl 1 rfl) ?_
  refine lv_aload_n hx hb dL_law_394 rfl (lv_at hl 3 rfl) ?_
  refine lv_iload_n hx hb dL_law_395 rfl (lv_at hl 0 rfl) ?_
  refine lv_iconst (v := (nI 1)) hx hb dL_law_396 (by decide) ?_
  refine lv_iadd hx hb dL_law_397 ?_
  refine va_sld hx hb S.1 S.2.1 S.2.2.1 hp.2.2 (sc_in hi S.2.2.2 (by omega)) dL_law_398 ?_
  refine ki2 (kV2 (As := [.int (xs (nI i + nI 1).toNatClampNeg)]) (rest := [.int r]) X hp (C_X8_feed h) tw_ml_L_35 vf_X8_feed ⟨rfl, rfl, Nat.le_of_ble_eq_true rfl, Nat.le_of_ble_eq_true rfl⟩ (pr_rcv X hp (k := 315) (by decide) (ob_315 _) (q := (RX8, TX8, 18)) rfl) rfl hl.1 rfl (Nat.le_of_ble_eq_true rfl) hf dL_law_399) hp (fun r' J H locs h hp => ?_)
  refine lv_icmp_eq (tgt := 1378) hx hb dL_law_402 (by decide) (fun _ => ?_) (fun q => absurd h.1 q)
  exact K _ _ _ h.2 hp
set_option maxHeartbeats 4000000 in
set_option maxRecDepth 100000 in
theorem lc_bank {E : EE} {p : Program} {l : Launch} {e : Env} {s : State} {m : MethodId} {args : Array Value} {below : List Frame} {meth : Method} {c : Code} {Q : State → Prop} {cells slots : Nat} (X : CX E p s m args meth c cL_law 4 ret RL) {b L i : Nat} {xs : Nat → Int32} (S : SC E.2.2.2.1 s b L xs) (hi : i + 7 ≤ L) (hf : cells ≤ room_1.cells ∧ slots ≤ room_1.slots) {I : II} (hI : INV I) {H : Heap} {locs : List Loc} {ls : Array Slot} (hp : PP E s H locs I) (hl : lv_has ls 4 [(3, .int (nI i)), (2, .ref (E.2.1 315)), (1, .ref (E.2.1 296)), (0, .ref b)]) (K : ∀ (J : II) (H1 : Heap) (locs1 : List Loc), INV J → PP E s H1 locs1 J → W p l e room_1 s m args below meth c H1 locs1 cells slots Q (F0 m 1378 ls [])) : W p l e room_1 s m args below meth c H locs cells slots Q (F0 m 407 ls []) := by
  obtain ⟨⟨hx, hb, hml, hown, hts⟩, hr, hlk, hK, hST, hN⟩ := id X
  refine lv_aload_n hx hb dL_law_407 rfl (lv_at hl 2 rfl) ?_
  refine ki2 (kV2 (As := []) (rest := []) X hp (C_X7_bank (s_bank I hI)) tw_ml_L_36 vf_X7_bank ⟨rfl, rfl, Nat.le_of_ble_eq_true rfl, Nat.le_of_ble_eq_true rfl⟩ (pr_rcv X hp (k := 296) (by decide) (ob_296 _) (q := (RX7, TX7, 9)) rfl) rfl hl.1 rfl (Nat.le_of_ble_eq_true rfl) hf dL_law_408) hp (fun r J H locs h hp => ?_)
  refine lv_aload_n hx hb dL_law_411 rfl (lv_at hl 1 rfl) ?_
  refine ki2 (kV2 (As := []) (rest := [.int r]) X hp (C_X8_bank h) tw_ml_L_40 vf_X8_bank ⟨rfl, rfl, Nat.le_of_ble_eq_true rfl, Nat.le_of_ble_eq_true rfl⟩ (pr_rcv X hp (k := 315) (by decide) (ob_315 _) (q := (RX8, TX8, 18)) rfl) rfl hl.1 rfl (Nat.le_of_ble_eq_true rfl) hf dL_law_412) hp (fun r' J H locs h hp => ?_)
  refine lv_icmp_eq (tgt := 1378) hx hb dL_law_415 (by decide) (fun _ => ?_) (fun q => absurd h.1 q)
  exact K _ _ _ h.2 hp
set_option maxHeartbeats 4000000 in
set_option maxRecDepth 100000 in
theorem lc_fault {E : EE} {p : Program} {l : Launch} {e : Env} {s : State} {m : MethodId} {args : Array Value} {below : List Frame} {meth : Method} {c : Code} {Q : State → Prop} {cells slots : Nat} (X : CX E p s m args meth c cL_law 4 ret RL) {b L i : Nat} {xs : Nat → Int32} (S : SC E.2.2.2.1 s b L xs) (hi : i + 7 ≤ L) (hf : cells ≤ room_1.cells ∧ slots ≤ room_1.slots) {I : II} (hI : INV I) {H : Heap} {locs : List Loc} {ls : Array Slot} (hp : PP E s H locs I) (hl : lv_has ls 4 [(3, .int (nI i)), (2, .ref (E.2.1 315)), (1, .ref (E.2.1 296)), (0, .ref b)]) (K : ∀ (J : II) (H1 : Heap) (locs1 : List Loc), INV J → PP E s H1 locs1 J → W p l e room_1 s m args below meth c H1 locs1 cells slots Q (F0 m 1378 ls [])) : W p l e room_1 s m args below meth c H locs cells slots Q (F0 m 420 ls []) := by
  obtain ⟨⟨hx, hb, hml, hown, hts⟩, hr, hlk, hK, hST, hN⟩ := id X
  refine lv_aload_n hx hb dL_law_420 rfl (lv_at hl 2 rfl) ?_
  refine ki2 (kV2 (As := []) (rest := []) X hp (C_X7_fault (s_fault I hI)) tw_ml_L_41 vf_X7_fault ⟨rfl, rfl, Nat.le_of_ble_eq_true rfl, Nat.le_of_ble_eq_true rfl⟩ (pr_rcv X hp (k := 296) (by decide) (ob_296 _) (q := (RX7, TX7, 9)) rfl) rfl hl.1 rfl (Nat.le_of_ble_eq_true rfl) hf dL_law_421) hp (fun r J H locs h hp => ?_)
  refine lv_aload_n hx hb dL_law_424 rfl (lv_at hl 1 rfl) ?_
  refine ki2 (kV2 (As := []) (rest := [.int r]) X hp (C_X8_fault h) tw_ml_L_44 vf_X8_fault ⟨rfl, rfl, Nat.le_of_ble_eq_true rfl, Nat.le_of_ble_eq_true rfl⟩ (pr_rcv X hp (k := 315) (by decide) (ob_315 _) (q := (RX8, TX8, 18)) rfl) rfl hl.1 rfl (Nat.le_of_ble_eq_true rfl) hf dL_law_425) hp (fun r' J H locs h hp => ?_)
  refine lv_icmp_eq (tgt := 1378) hx hb dL_law_428 (by decide) (fun _ => ?_) (fun q => absurd h.1 q)
  exact K _ _ _ h.2 hp
set_option maxHeartbeats 4000000 in
set_option maxRecDepth 100000 in
theorem lc_undo {E : EE} {p : Program} {l : Launch} {e : Env} {s : State} {m : MethodId} {args : Array Value} {below : List Frame} {meth : Method} {c : Code} {Q : State → Prop} {cells slots : Nat} (X : CX E p s m args meth c cL_law 4 ret RL) {b L i : Nat} {xs : Nat → Int32} (S : SC E.2.2.2.1 s b L xs) (hi : i + 7 ≤ L) (hf : cells ≤ room_1.cells ∧ slots ≤ room_1.slots) {I : II} (hI : INV I) {H : Heap} {locs : List Loc} {ls : Array Slot} (hp : PP E s H locs I) (hl : lv_has ls 4 [(3, .int (nI i)), (2, .ref (E.2.1 315)), (1, .ref (E.2.1 296)), (0, .ref b)]) (K : ∀ (J : II) (H1 : Heap) (locs1 : List Loc), INV J → PP E s H1 locs1 J → W p l e room_1 s m args below meth c H1 locs1 cells slots Q (F0 m 1378 ls [])) : W p l e room_1 s m args below meth c H locs cells slots Q (F0 m 433 ls []) := by
  obtain ⟨⟨hx, hb, hml, hown, hts⟩, hr, hlk, hK, hST, hN⟩ := id X
  refine lv_aload_n hx hb dL_law_433 rfl (lv_at hl 2 rfl) ?_
  refine ki2 (kV2 (As := []) (rest := []) X hp (C_X7_undo (s_undo I hI)) tw_ml_L_45 vf_X7_undo ⟨rfl, rfl, Nat.le_of_ble_eq_true rfl, Nat.le_of_ble_eq_true rfl⟩ (pr_rcv X hp (k := 296) (by decide) (ob_296 _) (q := (RX7, TX7, 9)) rfl) rfl hl.1 rfl (Nat.le_of_ble_eq_true rfl) hf dL_law_434) hp (fun r J H locs h hp => ?_)
  refine lv_aload_n hx hb dL_law_437 rfl (lv_at hl 1 rfl) ?_
  refine ki2 (kV2 (As := []) (rest := [.int r]) X hp (C_X8_undo h) tw_ml_L_48 vf_X8_undo ⟨rfl, rfl, Nat.le_of_ble_eq_true rfl, Nat.le_of_ble_eq_true rfl⟩ (pr_rcv X hp (k := 315) (by decide) (ob_315 _) (q := (RX8, TX8, 18)) rfl) rfl hl.1 rfl (Nat.le_of_ble_eq_true rfl) hf dL_law_438) hp (fun r' J H locs h hp => ?_)
  refine lv_icmp_eq (tgt := 1378) hx hb dL_law_441 (by decide) (fun _ => ?_) (fun q => absurd h.1 q)
  exact K _ _ _ h.2 hp
set_option maxHeartbeats 4000000 in
set_option maxRecDepth 100000 in
theorem lc_serve {E : EE} {p : Program} {l : Launch} {e : Env} {s : State} {m : MethodId} {args : Array Value} {below : List Frame} {meth : Method} {c : Code} {Q : State → Prop} {cells slots : Nat} (X : CX E p s m args meth c cL_law 4 ret RL) {b L i : Nat} {xs : Nat → Int32} (S : SC E.2.2.2.1 s b L xs) (hi : i + 7 ≤ L) (hf : cells ≤ room_1.cells ∧ slots ≤ room_1.slots) {I : II} (hI : INV I) {H : Heap} {locs : List Loc} {ls : Array Slot} (hp : PP E s H locs I) (hl : lv_has ls 4 [(3, .int (nI i)), (2, .ref (E.2.1 315)), (1, .ref (E.2.1 296)), (0, .ref b)]) (K : ∀ (J : II) (H1 : Heap) (locs1 : List Loc), INV J → PP E s H1 locs1 J → W p l e room_1 s m args below meth c H1 locs1 cells slots Q (F0 m 1378 ls [])) : W p l e room_1 s m args below meth c H locs cells slots Q (F0 m 446 ls []) := by
  obtain ⟨⟨hx, hb, hml, hown, hts⟩, hr, hlk, hK, hST, hN⟩ := id X
  refine lv_aload_n hx hb dL_law_446 rfl (lv_at hl 2 rfl) ?_
  refine lv_aload_n hx hb dL_law_447 rfl (lv_at hl 3 rfl) ?_
  refine lv_iload_n hx hb dL_law_448 rfl (lv_at hl 0 rfl) ?_
  refine lv_iconst (v := (nI 1)) hx hb dL_law_449 (by decide) ?_
  refine lv_iadd hx hb dL_law_450 ?_
  refine va_sld hx hb S.1 S.2.1 S.2.2.1 hp.2.2 (sc_in hi S.2.2.2 (by omega)) dL_law_451 ?_
  refine ki2 (kV2 (As := [.int (xs (nI i + nI 1).toNatClampNeg)]) (rest := []) X hp (C_X7_serve (s_serve _ I hI)) tw_ml_L_49 vf_X7_serve ⟨rfl, rfl, Nat.le_of_ble_eq_true rfl, Nat.le_of_ble_eq_true rfl⟩ (pr_rcv X hp (k := 296) (by decide) (ob_296 _) (q := (RX7, TX7, 9)) rfl) rfl hl.1 rfl (Nat.le_of_ble_eq_true rfl) hf dL_law_452) hp (fun r J H locs h hp => ?_)
  refine lv_aload_n hx hb dL_law_455 rfl (lv_at hl 1 rfl) ?_
  refine lv_aload_n hx hb dL_law_456 rfl (lv_at hl 3 rfl) ?_
  refine lv_iload_n hx hb dL_law_457 rfl (lv_at hl 0 rfl) ?_
  refine lv_iconst (v := (nI 1)) hx hb dL_law_458 (by decide) ?_
  refine lv_iadd hx hb dL_law_459 ?_
  refine va_sld hx hb S.1 S.2.1 S.2.2.1 hp.2.2 (sc_in hi S.2.2.2 (by omega)) dL_law_460 ?_
  refine ki2 (kV2 (As := [.int (xs (nI i + nI 1).toNatClampNeg)]) (rest := [.int r]) X hp (C_X8_serve h) tw_ml_L_52 vf_X8_serve ⟨rfl, rfl, Nat.le_of_ble_eq_true rfl, Nat.le_of_ble_eq_true rfl⟩ (pr_rcv X hp (k := 315) (by decide) (ob_315 _) (q := (RX8, TX8, 18)) rfl) rfl hl.1 rfl (Nat.le_of_ble_eq_true rfl) hf dL_law_461) hp (fun r' J H locs h hp => ?_)
  refine lv_icmp_eq (tgt := 1378) hx hb dL_law_464 (by decide) (fun _ => ?_) (fun q => absurd h.1 q)
  exact K _ _ _ h.2 hp
set_option maxHeartbeats 4000000 in
set_option maxRecDepth 100000 in
theorem lc_counter {E : EE} {p : Program} {l : Launch} {e : Env} {s : State} {m : MethodId} {args : Array Value} {below : List Frame} {meth : Method} {c : Code} {Q : State → Prop} {cells slots : Nat} (X : CX E p s m args meth c cL_law 4 ret RL) {b L i : Nat} {xs : Nat → Int32} (S : SC E.2.2.2.1 s b L xs) (hi : i + 7 ≤ L) (hf : cells ≤ room_1.cells ∧ slots ≤ room_1.slots) {I : II} (hI : INV I) {H : Heap} {locs : List Loc} {ls : Array Slot} (hp : PP E s H locs I) (hl : lv_has ls 4 [(3, .int (nI i)), (2, .ref (E.2.1 315)), (1, .ref (E.2.1 296)), (0, .ref b)]) (K : ∀ (J : II) (H1 : Heap) (locs1 : List Loc), INV J → PP E s H1 locs1 J → W p l e room_1 s m args below meth c H1 locs1 cells slots Q (F0 m 1378 ls [])) : W p l e room_1 s m args below meth c H locs cells slots Q (F0 m 469 ls []) := by
  obtain ⟨⟨hx, hb, hml, hown, hts⟩, hr, hlk, hK, hST, hN⟩ := id X
  refine lv_aload_n hx hb dL_law_469 rfl (lv_at hl 2 rfl) ?_
  refine lv_aload_n hx hb dL_law_470 rfl (lv_at hl 3 rfl) ?_
  refine lv_iload_n hx hb dL_law_471 rfl (lv_at hl 0 rfl) ?_
  refine lv_iconst (v := (nI 1)) hx hb dL_law_472 (by decide) ?_
  refine lv_iadd hx hb dL_law_473 ?_
  refine va_sld hx hb S.1 S.2.1 S.2.2.1 hp.2.2 (sc_in hi S.2.2.2 (by omega)) dL_law_474 ?_
  refine lv_aload_n hx hb dL_law_475 rfl (lv_at hl 3 rfl) ?_
  refine lv_iload_n hx hb dL_law_476 rfl (lv_at hl 0 rfl) ?_
  refine lv_iconst (v := (nI 2)) hx hb dL_law_477 (by decide) ?_
  refine lv_iadd hx hb dL_law_478 ?_
  refine va_sld hx hb S.1 S.2.1 S.2.2.1 hp.2.2 (sc_in hi S.2.2.2 (by omega)) dL_law_479 ?_
  refine ki2 (kV2 (As := [.int (xs (nI i + nI 1).toNatClampNeg), .int (xs (nI i + nI 2).toNatClampNeg)]) (rest := []) X hp (C_X7_counter (s_counter _ _ I hI)) tw_ml_L_53 vf_X7_counter ⟨rfl, rfl, Nat.le_of_ble_eq_true rfl, Nat.le_of_ble_eq_true rfl⟩ (pr_rcv X hp (k := 296) (by decide) (ob_296 _) (q := (RX7, TX7, 9)) rfl) rfl hl.1 rfl (Nat.le_of_ble_eq_true rfl) hf dL_law_480) hp (fun r J H locs h hp => ?_)
  refine lv_aload_n hx hb dL_law_483 rfl (lv_at hl 1 rfl) ?_
  refine lv_aload_n hx hb dL_law_484 rfl (lv_at hl 3 rfl) ?_
  refine lv_iload_n hx hb dL_law_485 rfl (lv_at hl 0 rfl) ?_
  refine lv_iconst (v := (nI 1)) hx hb dL_law_486 (by decide) ?_
  refine lv_iadd hx hb dL_law_487 ?_
  refine va_sld hx hb S.1 S.2.1 S.2.2.1 hp.2.2 (sc_in hi S.2.2.2 (by omega)) dL_law_488 ?_
  refine lv_aload_n hx hb dL_law_489 rfl (lv_at hl 3 rfl) ?_
  refine lv_iload_n hx hb dL_law_490 rfl (lv_at hl 0 rfl) ?_
  refine lv_iconst (v := (nI 2)) hx hb dL_law_491 (by decide) ?_
  refine lv_iadd hx hb dL_law_492 ?_
  refine va_sld hx hb S.1 S.2.1 S.2.2.1 hp.2.2 (sc_in hi S.2.2.2 (by omega)) dL_law_493 ?_
  refine ki2 (kV2 (As := [.int (xs (nI i + nI 1).toNatClampNeg), .int (xs (nI i + nI 2).toNatClampNeg)]) (rest := [.int r]) X hp (C_X8_counter h) tw_ml_L_57 vf_X8_counter ⟨rfl, rfl, Nat.le_of_ble_eq_true rfl, Nat.le_of_ble_eq_true rfl⟩ (pr_rcv X hp (k := 315) (by decide) (ob_315 _) (q := (RX8, TX8, 18)) rfl) rfl hl.1 rfl (Nat.le_of_ble_eq_true rfl) hf dL_law_494) hp (fun r' J H locs h hp => ?_)
  refine lv_icmp_eq (tgt := 1378) hx hb dL_law_497 (by decide) (fun _ => ?_) (fun q => absurd h.1 q)
  exact K _ _ _ h.2 hp
set_option maxHeartbeats 4000000 in
set_option maxRecDepth 100000 in
theorem lc_come {E : EE} {p : Program} {l : Launch} {e : Env} {s : State} {m : MethodId} {args : Array Value} {below : List Frame} {meth : Method} {c : Code} {Q : State → Prop} {cells slots : Nat} (X : CX E p s m args meth c cL_law 4 ret RL) {b L i : Nat} {xs : Nat → Int32} (S : SC E.2.2.2.1 s b L xs) (hi : i + 7 ≤ L) (hf : cells ≤ room_1.cells ∧ slots ≤ room_1.slots) {I : II} (hI : INV I) {H : Heap} {locs : List Loc} {ls : Array Slot} (hp : PP E s H locs I) (hl : lv_has ls 4 [(3, .int (nI i)), (2, .ref (E.2.1 315)), (1, .ref (E.2.1 296)), (0, .ref b)]) (K : ∀ (J : II) (H1 : Heap) (locs1 : List Loc), INV J → PP E s H1 locs1 J → W p l e room_1 s m args below meth c H1 locs1 cells slots Q (F0 m 1378 ls [])) : W p l e room_1 s m args below meth c H locs cells slots Q (F0 m 502 ls []) := by
  obtain ⟨⟨hx, hb, hml, hown, hts⟩, hr, hlk, hK, hST, hN⟩ := id X
  refine lv_aload_n hx hb dL_law_502 rfl (lv_at hl 2 rfl) ?_
  refine lv_aload_n hx hb dL_law_503 rfl (lv_at hl 3 rfl) ?_
  refine lv_iload_n hx hb dL_law_504 rfl (lv_at hl 0 rfl) ?_
  refine lv_iconst (v := (nI 1)) hx hb dL_law_505 (by decide) ?_
  refine lv_iadd hx hb dL_law_506 ?_
  refine va_sld hx hb S.1 S.2.1 S.2.2.1 hp.2.2 (sc_in hi S.2.2.2 (by omega)) dL_law_507 ?_
  refine lv_aload_n hx hb dL_law_508 rfl (lv_at hl 3 rfl) ?_
  refine lv_iload_n hx hb dL_law_509 rfl (lv_at hl 0 rfl) ?_
  refine lv_iconst (v := (nI 2)) hx hb dL_law_510 (by decide) ?_
  refine lv_iadd hx hb dL_law_511 ?_
  refine va_sld hx hb S.1 S.2.1 S.2.2.1 hp.2.2 (sc_in hi S.2.2.2 (by omega)) dL_law_512 ?_
  refine ki2 (kV2 (As := [.int (xs (nI i + nI 1).toNatClampNeg), .int (xs (nI i + nI 2).toNatClampNeg)]) (rest := []) X hp (C_X7_come (s_come _ _ I hI)) tw_ml_L_58 vf_X7_come ⟨rfl, rfl, Nat.le_of_ble_eq_true rfl, Nat.le_of_ble_eq_true rfl⟩ (pr_rcv X hp (k := 296) (by decide) (ob_296 _) (q := (RX7, TX7, 9)) rfl) rfl hl.1 rfl (Nat.le_of_ble_eq_true rfl) hf dL_law_513) hp (fun r J H locs h hp => ?_)
  refine lv_aload_n hx hb dL_law_516 rfl (lv_at hl 1 rfl) ?_
  refine lv_aload_n hx hb dL_law_517 rfl (lv_at hl 3 rfl) ?_
  refine lv_iload_n hx hb dL_law_518 rfl (lv_at hl 0 rfl) ?_
  refine lv_iconst (v := (nI 1)) hx hb dL_law_519 (by decide) ?_
  refine lv_iadd hx hb dL_law_520 ?_
  refine va_sld hx hb S.1 S.2.1 S.2.2.1 hp.2.2 (sc_in hi S.2.2.2 (by omega)) dL_law_521 ?_
  refine lv_aload_n hx hb dL_law_522 rfl (lv_at hl 3 rfl) ?_
  refine lv_iload_n hx hb dL_law_523 rfl (lv_at hl 0 rfl) ?_
  refine lv_iconst (v := (nI 2)) hx hb dL_law_524 (by decide) ?_
  refine lv_iadd hx hb dL_law_525 ?_
  refine va_sld hx hb S.1 S.2.1 S.2.2.1 hp.2.2 (sc_in hi S.2.2.2 (by omega)) dL_law_526 ?_
  refine ki2 (kV2 (As := [.int (xs (nI i + nI 1).toNatClampNeg), .int (xs (nI i + nI 2).toNatClampNeg)]) (rest := [.int r]) X hp (C_X8_come h) tw_ml_L_61 vf_X8_come ⟨rfl, rfl, Nat.le_of_ble_eq_true rfl, Nat.le_of_ble_eq_true rfl⟩ (pr_rcv X hp (k := 315) (by decide) (ob_315 _) (q := (RX8, TX8, 18)) rfl) rfl hl.1 rfl (Nat.le_of_ble_eq_true rfl) hf dL_law_527) hp (fun r' J H locs h hp => ?_)
  refine lv_icmp_eq (tgt := 1378) hx hb dL_law_530 (by decide) (fun _ => ?_) (fun q => absurd h.1 q)
  exact K _ _ _ h.2 hp
set_option maxHeartbeats 4000000 in
set_option maxRecDepth 100000 in
theorem lc_dismiss {E : EE} {p : Program} {l : Launch} {e : Env} {s : State} {m : MethodId} {args : Array Value} {below : List Frame} {meth : Method} {c : Code} {Q : State → Prop} {cells slots : Nat} (X : CX E p s m args meth c cL_law 4 ret RL) {b L i : Nat} {xs : Nat → Int32} (S : SC E.2.2.2.1 s b L xs) (hi : i + 7 ≤ L) (hf : cells ≤ room_1.cells ∧ slots ≤ room_1.slots) {I : II} (hI : INV I) {H : Heap} {locs : List Loc} {ls : Array Slot} (hp : PP E s H locs I) (hl : lv_has ls 4 [(3, .int (nI i)), (2, .ref (E.2.1 315)), (1, .ref (E.2.1 296)), (0, .ref b)]) (K : ∀ (J : II) (H1 : Heap) (locs1 : List Loc), INV J → PP E s H1 locs1 J → W p l e room_1 s m args below meth c H1 locs1 cells slots Q (F0 m 1378 ls [])) : W p l e room_1 s m args below meth c H locs cells slots Q (F0 m 535 ls []) := by
  obtain ⟨⟨hx, hb, hml, hown, hts⟩, hr, hlk, hK, hST, hN⟩ := id X
  refine lv_aload_n hx hb dL_law_535 rfl (lv_at hl 2 rfl) ?_
  refine ki2 (kV2 (As := []) (rest := []) X hp (C_X7_dismiss (s_dismiss I hI)) tw_ml_L_62 vf_X7_dismiss ⟨rfl, rfl, Nat.le_of_ble_eq_true rfl, Nat.le_of_ble_eq_true rfl⟩ (pr_rcv X hp (k := 296) (by decide) (ob_296 _) (q := (RX7, TX7, 9)) rfl) rfl hl.1 rfl (Nat.le_of_ble_eq_true rfl) hf dL_law_536) hp (fun r J H locs h hp => ?_)
  refine lv_aload_n hx hb dL_law_539 rfl (lv_at hl 1 rfl) ?_
  refine ki2 (kV2 (As := []) (rest := [.int r]) X hp (C_X8_dismiss h) tw_ml_L_65 vf_X8_dismiss ⟨rfl, rfl, Nat.le_of_ble_eq_true rfl, Nat.le_of_ble_eq_true rfl⟩ (pr_rcv X hp (k := 315) (by decide) (ob_315 _) (q := (RX8, TX8, 18)) rfl) rfl hl.1 rfl (Nat.le_of_ble_eq_true rfl) hf dL_law_540) hp (fun r' J H locs h hp => ?_)
  refine lv_icmp_eq (tgt := 1378) hx hb dL_law_543 (by decide) (fun _ => ?_) (fun q => absurd h.1 q)
  exact K _ _ _ h.2 hp
set_option maxHeartbeats 4000000 in
set_option maxRecDepth 100000 in
theorem lc_swap {E : EE} {p : Program} {l : Launch} {e : Env} {s : State} {m : MethodId} {args : Array Value} {below : List Frame} {meth : Method} {c : Code} {Q : State → Prop} {cells slots : Nat} (X : CX E p s m args meth c cL_law 4 ret RL) {b L i : Nat} {xs : Nat → Int32} (S : SC E.2.2.2.1 s b L xs) (hi : i + 7 ≤ L) (hf : cells ≤ room_1.cells ∧ slots ≤ room_1.slots) {I : II} (hI : INV I) {H : Heap} {locs : List Loc} {ls : Array Slot} (hp : PP E s H locs I) (hl : lv_has ls 4 [(3, .int (nI i)), (2, .ref (E.2.1 315)), (1, .ref (E.2.1 296)), (0, .ref b)]) (K : ∀ (J : II) (H1 : Heap) (locs1 : List Loc), INV J → PP E s H1 locs1 J → W p l e room_1 s m args below meth c H1 locs1 cells slots Q (F0 m 1378 ls [])) : W p l e room_1 s m args below meth c H locs cells slots Q (F0 m 548 ls []) := by
  obtain ⟨⟨hx, hb, hml, hown, hts⟩, hr, hlk, hK, hST, hN⟩ := id X
  refine lv_aload_n hx hb dL_law_548 rfl (lv_at hl 2 rfl) ?_
  refine ki2 (kV2 (As := []) (rest := []) X hp (C_X7_swap (s_swap I hI)) tw_ml_L_66 vf_X7_swap ⟨rfl, rfl, Nat.le_of_ble_eq_true rfl, Nat.le_of_ble_eq_true rfl⟩ (pr_rcv X hp (k := 296) (by decide) (ob_296 _) (q := (RX7, TX7, 9)) rfl) rfl hl.1 rfl (Nat.le_of_ble_eq_true rfl) hf dL_law_549) hp (fun r J H locs h hp => ?_)
  refine lv_aload_n hx hb dL_law_552 rfl (lv_at hl 1 rfl) ?_
  refine ki2 (kV2 (As := []) (rest := [.int r]) X hp (C_X8_swap h) tw_ml_L_69 vf_X8_swap ⟨rfl, rfl, Nat.le_of_ble_eq_true rfl, Nat.le_of_ble_eq_true rfl⟩ (pr_rcv X hp (k := 315) (by decide) (ob_315 _) (q := (RX8, TX8, 18)) rfl) rfl hl.1 rfl (Nat.le_of_ble_eq_true rfl) hf dL_law_553) hp (fun r' J H locs h hp => ?_)
  refine lv_icmp_eq (tgt := 1378) hx hb dL_law_556 (by decide) (fun _ => ?_) (fun q => absurd h.1 q)
  exact K _ _ _ h.2 hp
set_option maxHeartbeats 4000000 in
set_option maxRecDepth 100000 in
theorem lc_teller {E : EE} {p : Program} {l : Launch} {e : Env} {s : State} {m : MethodId} {args : Array Value} {below : List Frame} {meth : Method} {c : Code} {Q : State → Prop} {cells slots : Nat} (X : CX E p s m args meth c cL_law 4 ret RL) {b L i : Nat} {xs : Nat → Int32} (S : SC E.2.2.2.1 s b L xs) (hi : i + 7 ≤ L) (hf : cells ≤ room_1.cells ∧ slots ≤ room_1.slots) {I : II} (hI : INV I) {H : Heap} {locs : List Loc} {ls : Array Slot} (hp : PP E s H locs I) (hl : lv_has ls 4 [(3, .int (nI i)), (2, .ref (E.2.1 315)), (1, .ref (E.2.1 296)), (0, .ref b)]) (K : ∀ (J : II) (H1 : Heap) (locs1 : List Loc), INV J → PP E s H1 locs1 J → W p l e room_1 s m args below meth c H1 locs1 cells slots Q (F0 m 1378 ls [])) : W p l e room_1 s m args below meth c H locs cells slots Q (F0 m 561 ls []) := by
  obtain ⟨⟨hx, hb, hml, hown, hts⟩, hr, hlk, hK, hST, hN⟩ := id X
  refine lv_aload_n hx hb dL_law_561 rfl (lv_at hl 2 rfl) ?_
  refine lv_aload_n hx hb dL_law_562 rfl (lv_at hl 3 rfl) ?_
  refine lv_iload_n hx hb dL_law_563 rfl (lv_at hl 0 rfl) ?_
  refine lv_iconst (v := (nI 1)) hx hb dL_law_564 (by decide) ?_
  refine lv_iadd hx hb dL_law_565 ?_
  refine va_sld hx hb S.1 S.2.1 S.2.2.1 hp.2.2 (sc_in hi S.2.2.2 (by omega)) dL_law_566 ?_
  refine lv_aload_n hx hb dL_law_567 rfl (lv_at hl 3 rfl) ?_
  refine lv_iload_n hx hb dL_law_568 rfl (lv_at hl 0 rfl) ?_
  refine lv_iconst (v := (nI 2)) hx hb dL_law_569 (by decide) ?_
  refine lv_iadd hx hb dL_law_570 ?_
  refine va_sld hx hb S.1 S.2.1 S.2.2.1 hp.2.2 (sc_in hi S.2.2.2 (by omega)) dL_law_571 ?_
  refine ki2 (kV2 (As := [.int (xs (nI i + nI 1).toNatClampNeg), .int (xs (nI i + nI 2).toNatClampNeg)]) (rest := []) X hp (C_X7_teller (s_teller _ _ I hI)) tw_ml_L_70 vf_X7_teller ⟨rfl, rfl, Nat.le_of_ble_eq_true rfl, Nat.le_of_ble_eq_true rfl⟩ (pr_rcv X hp (k := 296) (by decide) (ob_296 _) (q := (RX7, TX7, 9)) rfl) rfl hl.1 rfl (Nat.le_of_ble_eq_true rfl) hf dL_law_572) hp (fun r J H locs h hp => ?_)
  refine lv_aload_n hx hb dL_law_575 rfl (lv_at hl 1 rfl) ?_
  refine lv_aload_n hx hb dL_law_576 rfl (lv_at hl 3 rfl) ?_
  refine lv_iload_n hx hb dL_law_577 rfl (lv_at hl 0 rfl) ?_
  refine lv_iconst (v := (nI 1)) hx hb dL_law_578 (by decide) ?_
  refine lv_iadd hx hb dL_law_579 ?_
  refine va_sld hx hb S.1 S.2.1 S.2.2.1 hp.2.2 (sc_in hi S.2.2.2 (by omega)) dL_law_580 ?_
  refine lv_aload_n hx hb dL_law_581 rfl (lv_at hl 3 rfl) ?_
  refine lv_iload_n hx hb dL_law_582 rfl (lv_at hl 0 rfl) ?_
  refine lv_iconst (v := (nI 2)) hx hb dL_law_583 (by decide) ?_
  refine lv_iadd hx hb dL_law_584 ?_
  refine va_sld hx hb S.1 S.2.1 S.2.2.1 hp.2.2 (sc_in hi S.2.2.2 (by omega)) dL_law_585 ?_
  refine ki2 (kV2 (As := [.int (xs (nI i + nI 1).toNatClampNeg), .int (xs (nI i + nI 2).toNatClampNeg)]) (rest := [.int r]) X hp (C_X8_teller h) tw_ml_L_73 vf_X8_teller ⟨rfl, rfl, Nat.le_of_ble_eq_true rfl, Nat.le_of_ble_eq_true rfl⟩ (pr_rcv X hp (k := 315) (by decide) (ob_315 _) (q := (RX8, TX8, 18)) rfl) rfl hl.1 rfl (Nat.le_of_ble_eq_true rfl) hf dL_law_586) hp (fun r' J H locs h hp => ?_)
  refine lv_icmp_eq (tgt := 1378) hx hb dL_law_589 (by decide) (fun _ => ?_) (fun q => absurd h.1 q)
  exact K _ _ _ h.2 hp
set_option maxHeartbeats 4000000 in
set_option maxRecDepth 100000 in
theorem lc_paper {E : EE} {p : Program} {l : Launch} {e : Env} {s : State} {m : MethodId} {args : Array Value} {below : List Frame} {meth : Method} {c : Code} {Q : State → Prop} {cells slots : Nat} (X : CX E p s m args meth c cL_law 4 ret RL) {b L i : Nat} {xs : Nat → Int32} (S : SC E.2.2.2.1 s b L xs) (hi : i + 7 ≤ L) (hf : cells ≤ room_1.cells ∧ slots ≤ room_1.slots) {I : II} (hI : INV I) {H : Heap} {locs : List Loc} {ls : Array Slot} (hp : PP E s H locs I) (hl : lv_has ls 4 [(3, .int (nI i)), (2, .ref (E.2.1 315)), (1, .ref (E.2.1 296)), (0, .ref b)]) (K : ∀ (J : II) (H1 : Heap) (locs1 : List Loc), INV J → PP E s H1 locs1 J → W p l e room_1 s m args below meth c H1 locs1 cells slots Q (F0 m 1378 ls [])) : W p l e room_1 s m args below meth c H locs cells slots Q (F0 m 594 ls []) := by
  obtain ⟨⟨hx, hb, hml, hown, hts⟩, hr, hlk, hK, hST, hN⟩ := id X
  refine lv_aload_n hx hb dL_law_594 rfl (lv_at hl 2 rfl) ?_
  refine lv_aload_n hx hb dL_law_595 rfl (lv_at hl 3 rfl) ?_
  refine lv_iload_n hx hb dL_law_596 rfl (lv_at hl 0 rfl) ?_
  refine lv_iconst (v := (nI 1)) hx hb dL_law_597 (by decide) ?_
  refine lv_iadd hx hb dL_law_598 ?_
  refine va_sld hx hb S.1 S.2.1 S.2.2.1 hp.2.2 (sc_in hi S.2.2.2 (by omega)) dL_law_599 ?_
  refine lv_aload_n hx hb dL_law_600 rfl (lv_at hl 3 rfl) ?_
  refine lv_iload_n hx hb dL_law_601 rfl (lv_at hl 0 rfl) ?_
  refine lv_iconst (v := (nI 2)) hx hb dL_law_602 (by decide) ?_
  refine lv_iadd hx hb dL_law_603 ?_
  refine va_sld hx hb S.1 S.2.1 S.2.2.1 hp.2.2 (sc_in hi S.2.2.2 (by omega)) dL_law_604 ?_
  refine ki2 (kV2 (As := [.int (xs (nI i + nI 1).toNatClampNeg), .int (xs (nI i + nI 2).toNatClampNeg)]) (rest := []) X hp (C_X7_paper (s_paper _ _ I hI)) tw_ml_L_74 vf_X7_paper ⟨rfl, rfl, Nat.le_of_ble_eq_true rfl, Nat.le_of_ble_eq_true rfl⟩ (pr_rcv X hp (k := 296) (by decide) (ob_296 _) (q := (RX7, TX7, 9)) rfl) rfl hl.1 rfl (Nat.le_of_ble_eq_true rfl) hf dL_law_605) hp (fun r J H locs h hp => ?_)
  refine lv_aload_n hx hb dL_law_608 rfl (lv_at hl 1 rfl) ?_
  refine lv_aload_n hx hb dL_law_609 rfl (lv_at hl 3 rfl) ?_
  refine lv_iload_n hx hb dL_law_610 rfl (lv_at hl 0 rfl) ?_
  refine lv_iconst (v := (nI 1)) hx hb dL_law_611 (by decide) ?_
  refine lv_iadd hx hb dL_law_612 ?_
  refine va_sld hx hb S.1 S.2.1 S.2.2.1 hp.2.2 (sc_in hi S.2.2.2 (by omega)) dL_law_613 ?_
  refine lv_aload_n hx hb dL_law_614 rfl (lv_at hl 3 rfl) ?_
  refine lv_iload_n hx hb dL_law_615 rfl (lv_at hl 0 rfl) ?_
  refine lv_iconst (v := (nI 2)) hx hb dL_law_616 (by decide) ?_
  refine lv_iadd hx hb dL_law_617 ?_
  refine va_sld hx hb S.1 S.2.1 S.2.2.1 hp.2.2 (sc_in hi S.2.2.2 (by omega)) dL_law_618 ?_
  refine ki2 (kV2 (As := [.int (xs (nI i + nI 1).toNatClampNeg), .int (xs (nI i + nI 2).toNatClampNeg)]) (rest := [.int r]) X hp (C_X8_paper h) tw_ml_L_77 vf_X8_paper ⟨rfl, rfl, Nat.le_of_ble_eq_true rfl, Nat.le_of_ble_eq_true rfl⟩ (pr_rcv X hp (k := 315) (by decide) (ob_315 _) (q := (RX8, TX8, 18)) rfl) rfl hl.1 rfl (Nat.le_of_ble_eq_true rfl) hf dL_law_619) hp (fun r' J H locs h hp => ?_)
  refine lv_icmp_eq (tgt := 1378) hx hb dL_law_622 (by decide) (fun _ => ?_) (fun q => absurd h.1 q)
  exact K _ _ _ h.2 hp
set_option maxHeartbeats 4000000 in
set_option maxRecDepth 100000 in
theorem lc_cost {E : EE} {p : Program} {l : Launch} {e : Env} {s : State} {m : MethodId} {args : Array Value} {below : List Frame} {meth : Method} {c : Code} {Q : State → Prop} {cells slots : Nat} (X : CX E p s m args meth c cL_law 4 ret RL) {b L i : Nat} {xs : Nat → Int32} (S : SC E.2.2.2.1 s b L xs) (hi : i + 7 ≤ L) (hf : cells ≤ room_1.cells ∧ slots ≤ room_1.slots) {I : II} (hI : INV I) {H : Heap} {locs : List Loc} {ls : Array Slot} (hp : PP E s H locs I) (hl : lv_has ls 4 [(3, .int (nI i)), (2, .ref (E.2.1 315)), (1, .ref (E.2.1 296)), (0, .ref b)]) (K : ∀ (J : II) (H1 : Heap) (locs1 : List Loc), INV J → PP E s H1 locs1 J → W p l e room_1 s m args below meth c H1 locs1 cells slots Q (F0 m 1378 ls [])) : W p l e room_1 s m args below meth c H locs cells slots Q (F0 m 627 ls []) := by
  obtain ⟨⟨hx, hb, hml, hown, hts⟩, hr, hlk, hK, hST, hN⟩ := id X
  refine lv_aload_n hx hb dL_law_627 rfl (lv_at hl 2 rfl) ?_
  refine lv_aload_n hx hb dL_law_628 rfl (lv_at hl 3 rfl) ?_
  refine lv_iload_n hx hb dL_law_629 rfl (lv_at hl 0 rfl) ?_
  refine lv_iconst (v := (nI 1)) hx hb dL_law_630 (by decide) ?_
  refine lv_iadd hx hb dL_law_631 ?_
  refine va_sld hx hb S.1 S.2.1 S.2.2.1 hp.2.2 (sc_in hi S.2.2.2 (by omega)) dL_law_632 ?_
  refine lv_aload_n hx hb dL_law_633 rfl (lv_at hl 3 rfl) ?_
  refine lv_iload_n hx hb dL_law_634 rfl (lv_at hl 0 rfl) ?_
  refine lv_iconst (v := (nI 2)) hx hb dL_law_635 (by decide) ?_
  refine lv_iadd hx hb dL_law_636 ?_
  refine va_sld hx hb S.1 S.2.1 S.2.2.1 hp.2.2 (sc_in hi S.2.2.2 (by omega)) dL_law_637 ?_
  refine ki2 (kV2 (As := [.int (xs (nI i + nI 1).toNatClampNeg), .int (xs (nI i + nI 2).toNatClampNeg)]) (rest := []) X hp (C_X7_cost (s_cost _ _ I hI)) tw_ml_L_78 vf_X7_cost ⟨rfl, rfl, Nat.le_of_ble_eq_true rfl, Nat.le_of_ble_eq_true rfl⟩ (pr_rcv X hp (k := 296) (by decide) (ob_296 _) (q := (RX7, TX7, 9)) rfl) rfl hl.1 rfl (Nat.le_of_ble_eq_true rfl) hf dL_law_638) hp (fun r J H locs h hp => ?_)
  refine lv_aload_n hx hb dL_law_641 rfl (lv_at hl 1 rfl) ?_
  refine lv_aload_n hx hb dL_law_642 rfl (lv_at hl 3 rfl) ?_
  refine lv_iload_n hx hb dL_law_643 rfl (lv_at hl 0 rfl) ?_
  refine lv_iconst (v := (nI 1)) hx hb dL_law_644 (by decide) ?_
  refine lv_iadd hx hb dL_law_645 ?_
  refine va_sld hx hb S.1 S.2.1 S.2.2.1 hp.2.2 (sc_in hi S.2.2.2 (by omega)) dL_law_646 ?_
  refine lv_aload_n hx hb dL_law_647 rfl (lv_at hl 3 rfl) ?_
  refine lv_iload_n hx hb dL_law_648 rfl (lv_at hl 0 rfl) ?_
  refine lv_iconst (v := (nI 2)) hx hb dL_law_649 (by decide) ?_
  refine lv_iadd hx hb dL_law_650 ?_
  refine va_sld hx hb S.1 S.2.1 S.2.2.1 hp.2.2 (sc_in hi S.2.2.2 (by omega)) dL_law_651 ?_
  refine ki2 (kV2 (As := [.int (xs (nI i + nI 1).toNatClampNeg), .int (xs (nI i + nI 2).toNatClampNeg)]) (rest := [.int r]) X hp (C_X8_cost h) tw_ml_L_81 vf_X8_cost ⟨rfl, rfl, Nat.le_of_ble_eq_true rfl, Nat.le_of_ble_eq_true rfl⟩ (pr_rcv X hp (k := 315) (by decide) (ob_315 _) (q := (RX8, TX8, 18)) rfl) rfl hl.1 rfl (Nat.le_of_ble_eq_true rfl) hf dL_law_652) hp (fun r' J H locs h hp => ?_)
  refine lv_icmp_eq (tgt := 1378) hx hb dL_law_655 (by decide) (fun _ => ?_) (fun q => absurd h.1 q)
  exact K _ _ _ h.2 hp
set_option maxHeartbeats 4000000 in
set_option maxRecDepth 100000 in
theorem lc_queue {E : EE} {p : Program} {l : Launch} {e : Env} {s : State} {m : MethodId} {args : Array Value} {below : List Frame} {meth : Method} {c : Code} {Q : State → Prop} {cells slots : Nat} (X : CX E p s m args meth c cL_law 4 ret RL) {b L i : Nat} {xs : Nat → Int32} (S : SC E.2.2.2.1 s b L xs) (hi : i + 7 ≤ L) (hf : cells ≤ room_1.cells ∧ slots ≤ room_1.slots) {I : II} (hI : INV I) {H : Heap} {locs : List Loc} {ls : Array Slot} (hp : PP E s H locs I) (hl : lv_has ls 4 [(3, .int (nI i)), (2, .ref (E.2.1 315)), (1, .ref (E.2.1 296)), (0, .ref b)]) (K : ∀ (J : II) (H1 : Heap) (locs1 : List Loc), INV J → PP E s H1 locs1 J → W p l e room_1 s m args below meth c H1 locs1 cells slots Q (F0 m 1378 ls [])) : W p l e room_1 s m args below meth c H locs cells slots Q (F0 m 660 ls []) := by
  obtain ⟨⟨hx, hb, hml, hown, hts⟩, hr, hlk, hK, hST, hN⟩ := id X
  refine lv_aload_n hx hb dL_law_660 rfl (lv_at hl 2 rfl) ?_
  refine lv_aload_n hx hb dL_law_661 rfl (lv_at hl 3 rfl) ?_
  refine lv_iload_n hx hb dL_law_662 rfl (lv_at hl 0 rfl) ?_
  refine lv_iconst (v := (nI 1)) hx hb dL_law_663 (by decide) ?_
  refine lv_iadd hx hb dL_law_664 ?_
  refine va_sld hx hb S.1 S.2.1 S.2.2.1 hp.2.2 (sc_in hi S.2.2.2 (by omega)) dL_law_665 ?_
  refine ki2 (kV2 (As := [.int (xs (nI i + nI 1).toNatClampNeg)]) (rest := []) X hp (C_X7_queue (s_queue _ I hI)) tw_ml_L_82 vf_X7_queue ⟨rfl, rfl, Nat.le_of_ble_eq_true rfl, Nat.le_of_ble_eq_true rfl⟩ (pr_rcv X hp (k := 296) (by decide) (ob_296 _) (q := (RX7, TX7, 9)) rfl) rfl hl.1 rfl (Nat.le_of_ble_eq_true rfl) hf dL_law_666) hp (fun r J H locs h hp => ?_)
  refine lv_aload_n hx hb dL_law_669 rfl (lv_at hl 1 rfl) ?_
  refine lv_aload_n hx hb dL_law_670 rfl (lv_at hl 3 rfl) ?_
  refine lv_iload_n hx hb dL_law_671 rfl (lv_at hl 0 rfl) ?_
  refine lv_iconst (v := (nI 1)) hx hb dL_law_672 (by decide) ?_
  refine lv_iadd hx hb dL_law_673 ?_
  refine va_sld hx hb S.1 S.2.1 S.2.2.1 hp.2.2 (sc_in hi S.2.2.2 (by omega)) dL_law_674 ?_
  refine ki2 (kV2 (As := [.int (xs (nI i + nI 1).toNatClampNeg)]) (rest := [.int r]) X hp (C_X8_queue h) tw_ml_L_85 vf_X8_queue ⟨rfl, rfl, Nat.le_of_ble_eq_true rfl, Nat.le_of_ble_eq_true rfl⟩ (pr_rcv X hp (k := 315) (by decide) (ob_315 _) (q := (RX8, TX8, 18)) rfl) rfl hl.1 rfl (Nat.le_of_ble_eq_true rfl) hf dL_law_675) hp (fun r' J H locs h hp => ?_)
  refine lv_icmp_eq (tgt := 1378) hx hb dL_law_678 (by decide) (fun _ => ?_) (fun q => absurd h.1 q)
  exact K _ _ _ h.2 hp
set_option maxHeartbeats 4000000 in
set_option maxRecDepth 100000 in
theorem lc_ahead {E : EE} {p : Program} {l : Launch} {e : Env} {s : State} {m : MethodId} {args : Array Value} {below : List Frame} {meth : Method} {c : Code} {Q : State → Prop} {cells slots : Nat} (X : CX E p s m args meth c cL_law 4 ret RL) {b L i : Nat} {xs : Nat → Int32} (S : SC E.2.2.2.1 s b L xs) (hi : i + 7 ≤ L) (hf : cells ≤ room_1.cells ∧ slots ≤ room_1.slots) {I : II} (hI : INV I) {H : Heap} {locs : List Loc} {ls : Array Slot} (hp : PP E s H locs I) (hl : lv_has ls 4 [(3, .int (nI i)), (2, .ref (E.2.1 315)), (1, .ref (E.2.1 296)), (0, .ref b)]) (K : ∀ (J : II) (H1 : Heap) (locs1 : List Loc), INV J → PP E s H1 locs1 J → W p l e room_1 s m args below meth c H1 locs1 cells slots Q (F0 m 1378 ls [])) : W p l e room_1 s m args below meth c H locs cells slots Q (F0 m 683 ls []) := by
  obtain ⟨⟨hx, hb, hml, hown, hts⟩, hr, hlk, hK, hST, hN⟩ := id X
  refine lv_aload_n hx hb dL_law_683 rfl (lv_at hl 2 rfl) ?_
  refine lv_aload_n hx hb dL_law_684 rfl (lv_at hl 3 rfl) ?_
  refine lv_iload_n hx hb dL_law_685 rfl (lv_at hl 0 rfl) ?_
  refine lv_iconst (v := (nI 1)) hx hb dL_law_686 (by decide) ?_
  refine lv_iadd hx hb dL_law_687 ?_
  refine va_sld hx hb S.1 S.2.1 S.2.2.1 hp.2.2 (sc_in hi S.2.2.2 (by omega)) dL_law_688 ?_
  refine lv_aload_n hx hb dL_law_689 rfl (lv_at hl 3 rfl) ?_
  refine lv_iload_n hx hb dL_law_690 rfl (lv_at hl 0 rfl) ?_
  refine lv_iconst (v := (nI 2)) hx hb dL_law_691 (by decide) ?_
  refine lv_iadd hx hb dL_law_692 ?_
  refine va_sld hx hb S.1 S.2.1 S.2.2.1 hp.2.2 (sc_in hi S.2.2.2 (by omega)) dL_law_693 ?_
  refine ki2 (kV2 (As := [.int (xs (nI i + nI 1).toNatClampNeg), .int (xs (nI i + nI 2).toNatClampNeg)]) (rest := []) X hp (C_X7_ahead (s_ahead _ _ I hI)) tw_ml_L_86 vf_X7_ahead ⟨rfl, rfl, Nat.le_of_ble_eq_true rfl, Nat.le_of_ble_eq_true rfl⟩ (pr_rcv X hp (k := 296) (by decide) (ob_296 _) (q := (RX7, TX7, 9)) rfl) rfl hl.1 rfl (Nat.le_of_ble_eq_true rfl) hf dL_law_694) hp (fun r J H locs h hp => ?_)
  refine lv_aload_n hx hb dL_law_697 rfl (lv_at hl 1 rfl) ?_
  refine lv_aload_n hx hb dL_law_698 rfl (lv_at hl 3 rfl) ?_
  refine lv_iload_n hx hb dL_law_699 rfl (lv_at hl 0 rfl) ?_
  refine lv_iconst (v := (nI 1)) hx hb dL_law_700 (by decide) ?_
  refine lv_iadd hx hb dL_law_701 ?_
  refine va_sld hx hb S.1 S.2.1 S.2.2.1 hp.2.2 (sc_in hi S.2.2.2 (by omega)) dL_law_702 ?_
  refine lv_aload_n hx hb dL_law_703 rfl (lv_at hl 3 rfl) ?_
  refine lv_iload_n hx hb dL_law_704 rfl (lv_at hl 0 rfl) ?_
  refine lv_iconst (v := (nI 2)) hx hb dL_law_705 (by decide) ?_
  refine lv_iadd hx hb dL_law_706 ?_
  refine va_sld hx hb S.1 S.2.1 S.2.2.1 hp.2.2 (sc_in hi S.2.2.2 (by omega)) dL_law_707 ?_
  refine ki2 (kV2 (As := [.int (xs (nI i + nI 1).toNatClampNeg), .int (xs (nI i + nI 2).toNatClampNeg)]) (rest := [.int r]) X hp (C_X8_ahead h) tw_ml_L_89 vf_X8_ahead ⟨rfl, rfl, Nat.le_of_ble_eq_true rfl, Nat.le_of_ble_eq_true rfl⟩ (pr_rcv X hp (k := 315) (by decide) (ob_315 _) (q := (RX8, TX8, 18)) rfl) rfl hl.1 rfl (Nat.le_of_ble_eq_true rfl) hf dL_law_708) hp (fun r' J H locs h hp => ?_)
  refine lv_icmp_eq (tgt := 1378) hx hb dL_law_711 (by decide) (fun _ => ?_) (fun q => absurd h.1 q)
  exact K _ _ _ h.2 hp
set_option maxHeartbeats 4000000 in
set_option maxRecDepth 100000 in
theorem lc_waiting {E : EE} {p : Program} {l : Launch} {e : Env} {s : State} {m : MethodId} {args : Array Value} {below : List Frame} {meth : Method} {c : Code} {Q : State → Prop} {cells slots : Nat} (X : CX E p s m args meth c cL_law 4 ret RL) {b L i : Nat} {xs : Nat → Int32} (S : SC E.2.2.2.1 s b L xs) (hi : i + 7 ≤ L) (hf : cells ≤ room_1.cells ∧ slots ≤ room_1.slots) {I : II} (hI : INV I) {H : Heap} {locs : List Loc} {ls : Array Slot} (hp : PP E s H locs I) (hl : lv_has ls 4 [(3, .int (nI i)), (2, .ref (E.2.1 315)), (1, .ref (E.2.1 296)), (0, .ref b)]) (K : ∀ (J : II) (H1 : Heap) (locs1 : List Loc), INV J → PP E s H1 locs1 J → W p l e room_1 s m args below meth c H1 locs1 cells slots Q (F0 m 1378 ls [])) : W p l e room_1 s m args below meth c H locs cells slots Q (F0 m 716 ls []) := by
  obtain ⟨⟨hx, hb, hml, hown, hts⟩, hr, hlk, hK, hST, hN⟩ := id X
  refine lv_aload_n hx hb dL_law_716 rfl (lv_at hl 2 rfl) ?_
  refine lv_aload_n hx hb dL_law_717 rfl (lv_at hl 3 rfl) ?_
  refine lv_iload_n hx hb dL_law_718 rfl (lv_at hl 0 rfl) ?_
  refine lv_iconst (v := (nI 1)) hx hb dL_law_719 (by decide) ?_
  refine lv_iadd hx hb dL_law_720 ?_
  refine va_sld hx hb S.1 S.2.1 S.2.2.1 hp.2.2 (sc_in hi S.2.2.2 (by omega)) dL_law_721 ?_
  refine ki2 (kV2 (As := [.int (xs (nI i + nI 1).toNatClampNeg)]) (rest := []) X hp (C_X7_waiting (s_waiting _ I hI)) tw_ml_L_90 vf_X7_waiting ⟨rfl, rfl, Nat.le_of_ble_eq_true rfl, Nat.le_of_ble_eq_true rfl⟩ (pr_rcv X hp (k := 296) (by decide) (ob_296 _) (q := (RX7, TX7, 9)) rfl) rfl hl.1 rfl (Nat.le_of_ble_eq_true rfl) hf dL_law_722) hp (fun r J H locs h hp => ?_)
  refine lv_aload_n hx hb dL_law_725 rfl (lv_at hl 1 rfl) ?_
  refine lv_aload_n hx hb dL_law_726 rfl (lv_at hl 3 rfl) ?_
  refine lv_iload_n hx hb dL_law_727 rfl (lv_at hl 0 rfl) ?_
  refine lv_iconst (v := (nI 1)) hx hb dL_law_728 (by decide) ?_
  refine lv_iadd hx hb dL_law_729 ?_
  refine va_sld hx hb S.1 S.2.1 S.2.2.1 hp.2.2 (sc_in hi S.2.2.2 (by omega)) dL_law_730 ?_
  refine ki2 (kV2 (As := [.int (xs (nI i + nI 1).toNatClampNeg)]) (rest := [.int r]) X hp (C_X8_waiting h) tw_ml_L_93 vf_X8_waiting ⟨rfl, rfl, Nat.le_of_ble_eq_true rfl, Nat.le_of_ble_eq_true rfl⟩ (pr_rcv X hp (k := 315) (by decide) (ob_315 _) (q := (RX8, TX8, 18)) rfl) rfl hl.1 rfl (Nat.le_of_ble_eq_true rfl) hf dL_law_731) hp (fun r' J H locs h hp => ?_)
  refine lv_icmp_eq (tgt := 1378) hx hb dL_law_734 (by decide) (fun _ => ?_) (fun q => absurd h.1 q)
  exact K _ _ _ h.2 hp
set_option maxHeartbeats 4000000 in
set_option maxRecDepth 100000 in
theorem lc_server {E : EE} {p : Program} {l : Launch} {e : Env} {s : State} {m : MethodId} {args : Array Value} {below : List Frame} {meth : Method} {c : Code} {Q : State → Prop} {cells slots : Nat} (X : CX E p s m args meth c cL_law 4 ret RL) {b L i : Nat} {xs : Nat → Int32} (S : SC E.2.2.2.1 s b L xs) (hi : i + 7 ≤ L) (hf : cells ≤ room_1.cells ∧ slots ≤ room_1.slots) {I : II} (hI : INV I) {H : Heap} {locs : List Loc} {ls : Array Slot} (hp : PP E s H locs I) (hl : lv_has ls 4 [(3, .int (nI i)), (2, .ref (E.2.1 315)), (1, .ref (E.2.1 296)), (0, .ref b)]) (K : ∀ (J : II) (H1 : Heap) (locs1 : List Loc), INV J → PP E s H1 locs1 J → W p l e room_1 s m args below meth c H1 locs1 cells slots Q (F0 m 1378 ls [])) : W p l e room_1 s m args below meth c H locs cells slots Q (F0 m 739 ls []) := by
  obtain ⟨⟨hx, hb, hml, hown, hts⟩, hr, hlk, hK, hST, hN⟩ := id X
  refine lv_aload_n hx hb dL_law_739 rfl (lv_at hl 2 rfl) ?_
  refine lv_aload_n hx hb dL_law_740 rfl (lv_at hl 3 rfl) ?_
  refine lv_iload_n hx hb dL_law_741 rfl (lv_at hl 0 rfl) ?_
  refine lv_iconst (v := (nI 1)) hx hb dL_law_742 (by decide) ?_
  refine lv_iadd hx hb dL_law_743 ?_
  refine va_sld hx hb S.1 S.2.1 S.2.2.1 hp.2.2 (sc_in hi S.2.2.2 (by omega)) dL_law_744 ?_
  refine ki2 (kV2 (As := [.int (xs (nI i + nI 1).toNatClampNeg)]) (rest := []) X hp (C_X7_server (s_server _ I hI)) tw_ml_L_94 vf_X7_server ⟨rfl, rfl, Nat.le_of_ble_eq_true rfl, Nat.le_of_ble_eq_true rfl⟩ (pr_rcv X hp (k := 296) (by decide) (ob_296 _) (q := (RX7, TX7, 9)) rfl) rfl hl.1 rfl (Nat.le_of_ble_eq_true rfl) hf dL_law_745) hp (fun r J H locs h hp => ?_)
  refine lv_aload_n hx hb dL_law_748 rfl (lv_at hl 1 rfl) ?_
  refine lv_aload_n hx hb dL_law_749 rfl (lv_at hl 3 rfl) ?_
  refine lv_iload_n hx hb dL_law_750 rfl (lv_at hl 0 rfl) ?_
  refine lv_iconst (v := (nI 1)) hx hb dL_law_751 (by decide) ?_
  refine lv_iadd hx hb dL_law_752 ?_
  refine va_sld hx hb S.1 S.2.1 S.2.2.1 hp.2.2 (sc_in hi S.2.2.2 (by omega)) dL_law_753 ?_
  refine ki2 (kV2 (As := [.int (xs (nI i + nI 1).toNatClampNeg)]) (rest := [.int r]) X hp (C_X8_server h) tw_ml_L_97 vf_X8_server ⟨rfl, rfl, Nat.le_of_ble_eq_true rfl, Nat.le_of_ble_eq_true rfl⟩ (pr_rcv X hp (k := 315) (by decide) (ob_315 _) (q := (RX8, TX8, 18)) rfl) rfl hl.1 rfl (Nat.le_of_ble_eq_true rfl) hf dL_law_754) hp (fun r' J H locs h hp => ?_)
  refine lv_icmp_eq (tgt := 1378) hx hb dL_law_757 (by decide) (fun _ => ?_) (fun q => absurd h.1 q)
  exact K _ _ _ h.2 hp
set_option maxHeartbeats 4000000 in
set_option maxRecDepth 100000 in
theorem lc_holds {E : EE} {p : Program} {l : Launch} {e : Env} {s : State} {m : MethodId} {args : Array Value} {below : List Frame} {meth : Method} {c : Code} {Q : State → Prop} {cells slots : Nat} (X : CX E p s m args meth c cL_law 4 ret RL) {b L i : Nat} {xs : Nat → Int32} (S : SC E.2.2.2.1 s b L xs) (hi : i + 7 ≤ L) (hf : cells ≤ room_1.cells ∧ slots ≤ room_1.slots) {I : II} (hI : INV I) {H : Heap} {locs : List Loc} {ls : Array Slot} (hp : PP E s H locs I) (hl : lv_has ls 4 [(3, .int (nI i)), (2, .ref (E.2.1 315)), (1, .ref (E.2.1 296)), (0, .ref b)]) (K : ∀ (J : II) (H1 : Heap) (locs1 : List Loc), INV J → PP E s H1 locs1 J → W p l e room_1 s m args below meth c H1 locs1 cells slots Q (F0 m 1378 ls [])) : W p l e room_1 s m args below meth c H locs cells slots Q (F0 m 762 ls []) := by
  obtain ⟨⟨hx, hb, hml, hown, hts⟩, hr, hlk, hK, hST, hN⟩ := id X
  refine lv_aload_n hx hb dL_law_762 rfl (lv_at hl 2 rfl) ?_
  refine ki2 (kV2 (As := []) (rest := []) X hp (C_X7_holds (s_holds I hI)) tw_ml_L_98 vf_X7_holds ⟨rfl, rfl, Nat.le_of_ble_eq_true rfl, Nat.le_of_ble_eq_true rfl⟩ (pr_rcv X hp (k := 296) (by decide) (ob_296 _) (q := (RX7, TX7, 9)) rfl) rfl hl.1 rfl (Nat.le_of_ble_eq_true rfl) hf dL_law_763) hp (fun r J H locs h hp => ?_)
  refine lv_aload_n hx hb dL_law_766 rfl (lv_at hl 1 rfl) ?_
  refine ki2 (kV2 (As := []) (rest := [.int r]) X hp (C_X8_holds h) tw_ml_L_101 vf_X8_holds ⟨rfl, rfl, Nat.le_of_ble_eq_true rfl, Nat.le_of_ble_eq_true rfl⟩ (pr_rcv X hp (k := 315) (by decide) (ob_315 _) (q := (RX8, TX8, 18)) rfl) rfl hl.1 rfl (Nat.le_of_ble_eq_true rfl) hf dL_law_767) hp (fun r' J H locs h hp => ?_)
  refine lv_icmp_eq (tgt := 1378) hx hb dL_law_770 (by decide) (fun _ => ?_) (fun q => absurd h.1 q)
  exact K _ _ _ h.2 hp
set_option maxHeartbeats 4000000 in
set_option maxRecDepth 100000 in
theorem lc_infant {E : EE} {p : Program} {l : Launch} {e : Env} {s : State} {m : MethodId} {args : Array Value} {below : List Frame} {meth : Method} {c : Code} {Q : State → Prop} {cells slots : Nat} (X : CX E p s m args meth c cL_law 4 ret RL) {b L i : Nat} {xs : Nat → Int32} (S : SC E.2.2.2.1 s b L xs) (hi : i + 7 ≤ L) (hf : cells ≤ room_1.cells ∧ slots ≤ room_1.slots) {I : II} (hI : INV I) {H : Heap} {locs : List Loc} {ls : Array Slot} (hp : PP E s H locs I) (hl : lv_has ls 4 [(3, .int (nI i)), (2, .ref (E.2.1 315)), (1, .ref (E.2.1 296)), (0, .ref b)]) (K : ∀ (J : II) (H1 : Heap) (locs1 : List Loc), INV J → PP E s H1 locs1 J → W p l e room_1 s m args below meth c H1 locs1 cells slots Q (F0 m 1378 ls [])) : W p l e room_1 s m args below meth c H locs cells slots Q (F0 m 775 ls []) := by
  obtain ⟨⟨hx, hb, hml, hown, hts⟩, hr, hlk, hK, hST, hN⟩ := id X
  refine lv_aload_n hx hb dL_law_775 rfl (lv_at hl 2 rfl) ?_
  refine ki2 (kV2 (As := []) (rest := []) X hp (C_X7_infant (s_infant I hI)) tw_ml_L_102 vf_X7_infant ⟨rfl, rfl, Nat.le_of_ble_eq_true rfl, Nat.le_of_ble_eq_true rfl⟩ (pr_rcv X hp (k := 296) (by decide) (ob_296 _) (q := (RX7, TX7, 9)) rfl) rfl hl.1 rfl (Nat.le_of_ble_eq_true rfl) hf dL_law_776) hp (fun r J H locs h hp => ?_)
  refine lv_aload_n hx hb dL_law_779 rfl (lv_at hl 1 rfl) ?_
  refine ki2 (kV2 (As := []) (rest := [.int r]) X hp (C_X8_infant h) tw_ml_L_105 vf_X8_infant ⟨rfl, rfl, Nat.le_of_ble_eq_true rfl, Nat.le_of_ble_eq_true rfl⟩ (pr_rcv X hp (k := 315) (by decide) (ob_315 _) (q := (RX8, TX8, 18)) rfl) rfl hl.1 rfl (Nat.le_of_ble_eq_true rfl) hf dL_law_780) hp (fun r' J H locs h hp => ?_)
  refine lv_icmp_eq (tgt := 1378) hx hb dL_law_783 (by decide) (fun _ => ?_) (fun q => absurd h.1 q)
  exact K _ _ _ h.2 hp
set_option maxHeartbeats 4000000 in
set_option maxRecDepth 100000 in
theorem lc_order {E : EE} {p : Program} {l : Launch} {e : Env} {s : State} {m : MethodId} {args : Array Value} {below : List Frame} {meth : Method} {c : Code} {Q : State → Prop} {cells slots : Nat} (X : CX E p s m args meth c cL_law 4 ret RL) {b L i : Nat} {xs : Nat → Int32} (S : SC E.2.2.2.1 s b L xs) (hi : i + 7 ≤ L) (hf : cells ≤ room_1.cells ∧ slots ≤ room_1.slots) {I : II} (hI : INV I) {H : Heap} {locs : List Loc} {ls : Array Slot} (hp : PP E s H locs I) (hl : lv_has ls 4 [(3, .int (nI i)), (2, .ref (E.2.1 315)), (1, .ref (E.2.1 296)), (0, .ref b)]) (K : ∀ (J : II) (H1 : Heap) (locs1 : List Loc), INV J → PP E s H1 locs1 J → W p l e room_1 s m args below meth c H1 locs1 cells slots Q (F0 m 1378 ls [])) : W p l e room_1 s m args below meth c H locs cells slots Q (F0 m 788 ls []) := by
  obtain ⟨⟨hx, hb, hml, hown, hts⟩, hr, hlk, hK, hST, hN⟩ := id X
  refine lv_aload_n hx hb dL_law_788 rfl (lv_at hl 2 rfl) ?_
  refine lv_aload_n hx hb dL_law_789 rfl (lv_at hl 3 rfl) ?_
  refine lv_iload_n hx hb dL_law_790 rfl (lv_at hl 0 rfl) ?_
  refine lv_iconst (v := (nI 1)) hx hb dL_law_791 (by decide) ?_
  refine lv_iadd hx hb dL_law_792 ?_
  refine va_sld hx hb S.1 S.2.1 S.2.2.1 hp.2.2 (sc_in hi S.2.2.2 (by omega)) dL_law_793 ?_
  refine ki2 (kV2 (As := [.int (xs (nI i + nI 1).toNatClampNeg)]) (rest := []) X hp (C_X7_order (s_order _ I hI)) tw_ml_L_106 vf_X7_order ⟨rfl, rfl, Nat.le_of_ble_eq_true rfl, Nat.le_of_ble_eq_true rfl⟩ (pr_rcv X hp (k := 296) (by decide) (ob_296 _) (q := (RX7, TX7, 9)) rfl) rfl hl.1 rfl (Nat.le_of_ble_eq_true rfl) hf dL_law_794) hp (fun r J H locs h hp => ?_)
  refine lv_aload_n hx hb dL_law_797 rfl (lv_at hl 1 rfl) ?_
  refine lv_aload_n hx hb dL_law_798 rfl (lv_at hl 3 rfl) ?_
  refine lv_iload_n hx hb dL_law_799 rfl (lv_at hl 0 rfl) ?_
  refine lv_iconst (v := (nI 1)) hx hb dL_law_800 (by decide) ?_
  refine lv_iadd hx hb dL_law_801 ?_
  refine va_sld hx hb S.1 S.2.1 S.2.2.1 hp.2.2 (sc_in hi S.2.2.2 (by omega)) dL_law_802 ?_
  refine ki2 (kV2 (As := [.int (xs (nI i + nI 1).toNatClampNeg)]) (rest := [.int r]) X hp (C_X8_order h) tw_ml_L_109 vf_X8_order ⟨rfl, rfl, Nat.le_of_ble_eq_true rfl, Nat.le_of_ble_eq_true rfl⟩ (pr_rcv X hp (k := 315) (by decide) (ob_315 _) (q := (RX8, TX8, 18)) rfl) rfl hl.1 rfl (Nat.le_of_ble_eq_true rfl) hf dL_law_803) hp (fun r' J H locs h hp => ?_)
  refine lv_icmp_eq (tgt := 1378) hx hb dL_law_806 (by decide) (fun _ => ?_) (fun q => absurd h.1 q)
  exact K _ _ _ h.2 hp
set_option maxHeartbeats 4000000 in
set_option maxRecDepth 100000 in
theorem lc_share {E : EE} {p : Program} {l : Launch} {e : Env} {s : State} {m : MethodId} {args : Array Value} {below : List Frame} {meth : Method} {c : Code} {Q : State → Prop} {cells slots : Nat} (X : CX E p s m args meth c cL_law 4 ret RL) {b L i : Nat} {xs : Nat → Int32} (S : SC E.2.2.2.1 s b L xs) (hi : i + 7 ≤ L) (hf : cells ≤ room_1.cells ∧ slots ≤ room_1.slots) {I : II} (hI : INV I) {H : Heap} {locs : List Loc} {ls : Array Slot} (hp : PP E s H locs I) (hl : lv_has ls 4 [(3, .int (nI i)), (2, .ref (E.2.1 315)), (1, .ref (E.2.1 296)), (0, .ref b)]) (K : ∀ (J : II) (H1 : Heap) (locs1 : List Loc), INV J → PP E s H1 locs1 J → W p l e room_1 s m args below meth c H1 locs1 cells slots Q (F0 m 1378 ls [])) : W p l e room_1 s m args below meth c H locs cells slots Q (F0 m 811 ls []) := by
  obtain ⟨⟨hx, hb, hml, hown, hts⟩, hr, hlk, hK, hST, hN⟩ := id X
  refine lv_aload_n hx hb dL_law_811 rfl (lv_at hl 2 rfl) ?_
  refine lv_aload_n hx hb dL_law_812 rfl (lv_at hl 3 rfl) ?_
  refine lv_iload_n hx hb dL_law_813 rfl (lv_at hl 0 rfl) ?_
  refine lv_iconst (v := (nI 1)) hx hb dL_law_814 (by decide) ?_
  refine lv_iadd hx hb dL_law_815 ?_
  refine va_sld hx hb S.1 S.2.1 S.2.2.1 hp.2.2 (sc_in hi S.2.2.2 (by omega)) dL_law_816 ?_
  refine ki2 (kV2 (As := [.int (xs (nI i + nI 1).toNatClampNeg)]) (rest := []) X hp (C_X7_share (s_share _ I hI)) tw_ml_L_110 vf_X7_share ⟨rfl, rfl, Nat.le_of_ble_eq_true rfl, Nat.le_of_ble_eq_true rfl⟩ (pr_rcv X hp (k := 296) (by decide) (ob_296 _) (q := (RX7, TX7, 9)) rfl) rfl hl.1 rfl (Nat.le_of_ble_eq_true rfl) hf dL_law_817) hp (fun r J H locs h hp => ?_)
  refine lv_aload_n hx hb dL_law_820 rfl (lv_at hl 1 rfl) ?_
  refine lv_aload_n hx hb dL_law_821 rfl (lv_at hl 3 rfl) ?_
  refine lv_iload_n hx hb dL_law_822 rfl (lv_at hl 0 rfl) ?_
  refine lv_iconst (v := (nI 1)) hx hb dL_law_823 (by decide) ?_
  refine lv_iadd hx hb dL_law_824 ?_
  refine va_sld hx hb S.1 S.2.1 S.2.2.1 hp.2.2 (sc_in hi S.2.2.2 (by omega)) dL_law_825 ?_
  refine ki2 (kV2 (As := [.int (xs (nI i + nI 1).toNatClampNeg)]) (rest := [.int r]) X hp (C_X8_share h) tw_ml_L_113 vf_X8_share ⟨rfl, rfl, Nat.le_of_ble_eq_true rfl, Nat.le_of_ble_eq_true rfl⟩ (pr_rcv X hp (k := 315) (by decide) (ob_315 _) (q := (RX8, TX8, 18)) rfl) rfl hl.1 rfl (Nat.le_of_ble_eq_true rfl) hf dL_law_826) hp (fun r' J H locs h hp => ?_)
  refine lv_icmp_eq (tgt := 1378) hx hb dL_law_829 (by decide) (fun _ => ?_) (fun q => absurd h.1 q)
  exact K _ _ _ h.2 hp
set_option maxHeartbeats 4000000 in
set_option maxRecDepth 100000 in
theorem lc_open {E : EE} {p : Program} {l : Launch} {e : Env} {s : State} {m : MethodId} {args : Array Value} {below : List Frame} {meth : Method} {c : Code} {Q : State → Prop} {cells slots : Nat} (X : CX E p s m args meth c cL_law 4 ret RL) {b L i : Nat} {xs : Nat → Int32} (S : SC E.2.2.2.1 s b L xs) (hi : i + 7 ≤ L) (hf : cells ≤ room_1.cells ∧ slots ≤ room_1.slots) {I : II} (hI : INV I) {H : Heap} {locs : List Loc} {ls : Array Slot} (hp : PP E s H locs I) (hl : lv_has ls 4 [(3, .int (nI i)), (2, .ref (E.2.1 315)), (1, .ref (E.2.1 296)), (0, .ref b)]) (K : ∀ (J : II) (H1 : Heap) (locs1 : List Loc), INV J → PP E s H1 locs1 J → W p l e room_1 s m args below meth c H1 locs1 cells slots Q (F0 m 1378 ls [])) : W p l e room_1 s m args below meth c H locs cells slots Q (F0 m 834 ls []) := by
  obtain ⟨⟨hx, hb, hml, hown, hts⟩, hr, hlk, hK, hST, hN⟩ := id X
  refine lv_aload_n hx hb dL_law_834 rfl (lv_at hl 2 rfl) ?_
  refine lv_aload_n hx hb dL_law_835 rfl (lv_at hl 3 rfl) ?_
  refine lv_iload_n hx hb dL_law_836 rfl (lv_at hl 0 rfl) ?_
  refine lv_iconst (v := (nI 1)) hx hb dL_law_837 (by decide) ?_
  refine lv_iadd hx hb dL_law_838 ?_
  refine va_sld hx hb S.1 S.2.1 S.2.2.1 hp.2.2 (sc_in hi S.2.2.2 (by omega)) dL_law_839 ?_
  refine ki2 (kV2 (As := [.int (xs (nI i + nI 1).toNatClampNeg)]) (rest := []) X hp (C_X7_open (s_open _ I hI)) tw_ml_L_114 vf_X7_open ⟨rfl, rfl, Nat.le_of_ble_eq_true rfl, Nat.le_of_ble_eq_true rfl⟩ (pr_rcv X hp (k := 296) (by decide) (ob_296 _) (q := (RX7, TX7, 9)) rfl) rfl hl.1 rfl (Nat.le_of_ble_eq_true rfl) hf dL_law_840) hp (fun r J H locs h hp => ?_)
  refine lv_aload_n hx hb dL_law_843 rfl (lv_at hl 1 rfl) ?_
  refine lv_aload_n hx hb dL_law_844 rfl (lv_at hl 3 rfl) ?_
  refine lv_iload_n hx hb dL_law_845 rfl (lv_at hl 0 rfl) ?_
  refine lv_iconst (v := (nI 1)) hx hb dL_law_846 (by decide) ?_
  refine lv_iadd hx hb dL_law_847 ?_
  refine va_sld hx hb S.1 S.2.1 S.2.2.1 hp.2.2 (sc_in hi S.2.2.2 (by omega)) dL_law_848 ?_
  refine ki2 (kV2 (As := [.int (xs (nI i + nI 1).toNatClampNeg)]) (rest := [.int r]) X hp (C_X8_open h) tw_ml_L_117 vf_X8_open ⟨rfl, rfl, Nat.le_of_ble_eq_true rfl, Nat.le_of_ble_eq_true rfl⟩ (pr_rcv X hp (k := 315) (by decide) (ob_315 _) (q := (RX8, TX8, 18)) rfl) rfl hl.1 rfl (Nat.le_of_ble_eq_true rfl) hf dL_law_849) hp (fun r' J H locs h hp => ?_)
  refine lv_icmp_eq (tgt := 1378) hx hb dL_law_852 (by decide) (fun _ => ?_) (fun q => absurd h.1 q)
  exact K _ _ _ h.2 hp
set_option maxHeartbeats 4000000 in
set_option maxRecDepth 100000 in
theorem lc_cheap {E : EE} {p : Program} {l : Launch} {e : Env} {s : State} {m : MethodId} {args : Array Value} {below : List Frame} {meth : Method} {c : Code} {Q : State → Prop} {cells slots : Nat} (X : CX E p s m args meth c cL_law 4 ret RL) {b L i : Nat} {xs : Nat → Int32} (S : SC E.2.2.2.1 s b L xs) (hi : i + 7 ≤ L) (hf : cells ≤ room_1.cells ∧ slots ≤ room_1.slots) {I : II} (hI : INV I) {H : Heap} {locs : List Loc} {ls : Array Slot} (hp : PP E s H locs I) (hl : lv_has ls 4 [(3, .int (nI i)), (2, .ref (E.2.1 315)), (1, .ref (E.2.1 296)), (0, .ref b)]) (K : ∀ (J : II) (H1 : Heap) (locs1 : List Loc), INV J → PP E s H1 locs1 J → W p l e room_1 s m args below meth c H1 locs1 cells slots Q (F0 m 1378 ls [])) : W p l e room_1 s m args below meth c H locs cells slots Q (F0 m 857 ls []) := by
  obtain ⟨⟨hx, hb, hml, hown, hts⟩, hr, hlk, hK, hST, hN⟩ := id X
  refine lv_aload_n hx hb dL_law_857 rfl (lv_at hl 2 rfl) ?_
  refine lv_aload_n hx hb dL_law_858 rfl (lv_at hl 3 rfl) ?_
  refine lv_iload_n hx hb dL_law_859 rfl (lv_at hl 0 rfl) ?_
  refine lv_iconst (v := (nI 1)) hx hb dL_law_860 (by decide) ?_
  refine lv_iadd hx hb dL_law_861 ?_
  refine va_sld hx hb S.1 S.2.1 S.2.2.1 hp.2.2 (sc_in hi S.2.2.2 (by omega)) dL_law_862 ?_
  refine lv_aload_n hx hb dL_law_863 rfl (lv_at hl 3 rfl) ?_
  refine lv_iload_n hx hb dL_law_864 rfl (lv_at hl 0 rfl) ?_
  refine lv_iconst (v := (nI 2)) hx hb dL_law_865 (by decide) ?_
  refine lv_iadd hx hb dL_law_866 ?_
  refine va_sld hx hb S.1 S.2.1 S.2.2.1 hp.2.2 (sc_in hi S.2.2.2 (by omega)) dL_law_867 ?_
  refine ki2 (kV2 (As := [.int (xs (nI i + nI 1).toNatClampNeg), .int (xs (nI i + nI 2).toNatClampNeg)]) (rest := []) X hp (C_X7_cheap (s_cheap _ _ I hI)) tw_ml_L_118 vf_X7_cheap ⟨rfl, rfl, Nat.le_of_ble_eq_true rfl, Nat.le_of_ble_eq_true rfl⟩ (pr_rcv X hp (k := 296) (by decide) (ob_296 _) (q := (RX7, TX7, 9)) rfl) rfl hl.1 rfl (Nat.le_of_ble_eq_true rfl) hf dL_law_868) hp (fun r J H locs h hp => ?_)
  refine lv_aload_n hx hb dL_law_871 rfl (lv_at hl 1 rfl) ?_
  refine lv_aload_n hx hb dL_law_872 rfl (lv_at hl 3 rfl) ?_
  refine lv_iload_n hx hb dL_law_873 rfl (lv_at hl 0 rfl) ?_
  refine lv_iconst (v := (nI 1)) hx hb dL_law_874 (by decide) ?_
  refine lv_iadd hx hb dL_law_875 ?_
  refine va_sld hx hb S.1 S.2.1 S.2.2.1 hp.2.2 (sc_in hi S.2.2.2 (by omega)) dL_law_876 ?_
  refine lv_aload_n hx hb dL_law_877 rfl (lv_at hl 3 rfl) ?_
  refine lv_iload_n hx hb dL_law_878 rfl (lv_at hl 0 rfl) ?_
  refine lv_iconst (v := (nI 2)) hx hb dL_law_879 (by decide) ?_
  refine lv_iadd hx hb dL_law_880 ?_
  refine va_sld hx hb S.1 S.2.1 S.2.2.1 hp.2.2 (sc_in hi S.2.2.2 (by omega)) dL_law_881 ?_
  refine ki2 (kV2 (As := [.int (xs (nI i + nI 1).toNatClampNeg), .int (xs (nI i + nI 2).toNatClampNeg)]) (rest := [.int r]) X hp (C_X8_cheap h) tw_ml_L_121 vf_X8_cheap ⟨rfl, rfl, Nat.le_of_ble_eq_true rfl, Nat.le_of_ble_eq_true rfl⟩ (pr_rcv X hp (k := 315) (by decide) (ob_315 _) (q := (RX8, TX8, 18)) rfl) rfl hl.1 rfl (Nat.le_of_ble_eq_true rfl) hf dL_law_882) hp (fun r' J H locs h hp => ?_)
  refine lv_icmp_eq (tgt := 1378) hx hb dL_law_885 (by decide) (fun _ => ?_) (fun q => absurd h.1 q)
  exact K _ _ _ h.2 hp
set_option maxHeartbeats 4000000 in
set_option maxRecDepth 100000 in
theorem lc_most {E : EE} {p : Program} {l : Launch} {e : Env} {s : State} {m : MethodId} {args : Array Value} {below : List Frame} {meth : Method} {c : Code} {Q : State → Prop} {cells slots : Nat} (X : CX E p s m args meth c cL_law 4 ret RL) {b L i : Nat} {xs : Nat → Int32} (S : SC E.2.2.2.1 s b L xs) (hi : i + 7 ≤ L) (hf : cells ≤ room_1.cells ∧ slots ≤ room_1.slots) {I : II} (hI : INV I) {H : Heap} {locs : List Loc} {ls : Array Slot} (hp : PP E s H locs I) (hl : lv_has ls 4 [(3, .int (nI i)), (2, .ref (E.2.1 315)), (1, .ref (E.2.1 296)), (0, .ref b)]) (K : ∀ (J : II) (H1 : Heap) (locs1 : List Loc), INV J → PP E s H1 locs1 J → W p l e room_1 s m args below meth c H1 locs1 cells slots Q (F0 m 1378 ls [])) : W p l e room_1 s m args below meth c H locs cells slots Q (F0 m 890 ls []) := by
  obtain ⟨⟨hx, hb, hml, hown, hts⟩, hr, hlk, hK, hST, hN⟩ := id X
  refine lv_aload_n hx hb dL_law_890 rfl (lv_at hl 2 rfl) ?_
  refine ki2 (kV2 (As := []) (rest := []) X hp (C_X7_most (s_most I hI)) tw_ml_L_122 vf_X7_most ⟨rfl, rfl, Nat.le_of_ble_eq_true rfl, Nat.le_of_ble_eq_true rfl⟩ (pr_rcv X hp (k := 296) (by decide) (ob_296 _) (q := (RX7, TX7, 9)) rfl) rfl hl.1 rfl (Nat.le_of_ble_eq_true rfl) hf dL_law_891) hp (fun r J H locs h hp => ?_)
  refine lv_aload_n hx hb dL_law_894 rfl (lv_at hl 1 rfl) ?_
  refine ki2 (kV2 (As := []) (rest := [.int r]) X hp (C_X8_most h) tw_ml_L_125 vf_X8_most ⟨rfl, rfl, Nat.le_of_ble_eq_true rfl, Nat.le_of_ble_eq_true rfl⟩ (pr_rcv X hp (k := 315) (by decide) (ob_315 _) (q := (RX8, TX8, 18)) rfl) rfl hl.1 rfl (Nat.le_of_ble_eq_true rfl) hf dL_law_895) hp (fun r' J H locs h hp => ?_)
  refine lv_icmp_eq (tgt := 1378) hx hb dL_law_898 (by decide) (fun _ => ?_) (fun q => absurd h.1 q)
  exact K _ _ _ h.2 hp
set_option maxHeartbeats 4000000 in
set_option maxRecDepth 100000 in
theorem lc_twins {E : EE} {p : Program} {l : Launch} {e : Env} {s : State} {m : MethodId} {args : Array Value} {below : List Frame} {meth : Method} {c : Code} {Q : State → Prop} {cells slots : Nat} (X : CX E p s m args meth c cL_law 4 ret RL) {b L i : Nat} {xs : Nat → Int32} (S : SC E.2.2.2.1 s b L xs) (hi : i + 7 ≤ L) (hf : cells ≤ room_1.cells ∧ slots ≤ room_1.slots) {I : II} (hI : INV I) {H : Heap} {locs : List Loc} {ls : Array Slot} (hp : PP E s H locs I) (hl : lv_has ls 4 [(3, .int (nI i)), (2, .ref (E.2.1 315)), (1, .ref (E.2.1 296)), (0, .ref b)]) (K : ∀ (J : II) (H1 : Heap) (locs1 : List Loc), INV J → PP E s H1 locs1 J → W p l e room_1 s m args below meth c H1 locs1 cells slots Q (F0 m 1378 ls [])) : W p l e room_1 s m args below meth c H locs cells slots Q (F0 m 903 ls []) := by
  obtain ⟨⟨hx, hb, hml, hown, hts⟩, hr, hlk, hK, hST, hN⟩ := id X
  refine lv_aload_n hx hb dL_law_903 rfl (lv_at hl 2 rfl) ?_
  refine lv_aload_n hx hb dL_law_904 rfl (lv_at hl 3 rfl) ?_
  refine lv_iload_n hx hb dL_law_905 rfl (lv_at hl 0 rfl) ?_
  refine lv_iconst (v := (nI 1)) hx hb dL_law_906 (by decide) ?_
  refine lv_iadd hx hb dL_law_907 ?_
  refine va_sld hx hb S.1 S.2.1 S.2.2.1 hp.2.2 (sc_in hi S.2.2.2 (by omega)) dL_law_908 ?_
  refine ki2 (kV2 (As := [.int (xs (nI i + nI 1).toNatClampNeg)]) (rest := []) X hp (C_X7_twins (s_twins _ I hI)) tw_ml_L_126 vf_X7_twins ⟨rfl, rfl, Nat.le_of_ble_eq_true rfl, Nat.le_of_ble_eq_true rfl⟩ (pr_rcv X hp (k := 296) (by decide) (ob_296 _) (q := (RX7, TX7, 9)) rfl) rfl hl.1 rfl (Nat.le_of_ble_eq_true rfl) hf dL_law_909) hp (fun r J H locs h hp => ?_)
  refine lv_aload_n hx hb dL_law_912 rfl (lv_at hl 1 rfl) ?_
  refine lv_aload_n hx hb dL_law_913 rfl (lv_at hl 3 rfl) ?_
  refine lv_iload_n hx hb dL_law_914 rfl (lv_at hl 0 rfl) ?_
  refine lv_iconst (v := (nI 1)) hx hb dL_law_915 (by decide) ?_
  refine lv_iadd hx hb dL_law_916 ?_
  refine va_sld hx hb S.1 S.2.1 S.2.2.1 hp.2.2 (sc_in hi S.2.2.2 (by omega)) dL_law_917 ?_
  refine ki2 (kV2 (As := [.int (xs (nI i + nI 1).toNatClampNeg)]) (rest := [.int r]) X hp (C_X8_twins h) tw_ml_L_129 vf_X8_twins ⟨rfl, rfl, Nat.le_of_ble_eq_true rfl, Nat.le_of_ble_eq_true rfl⟩ (pr_rcv X hp (k := 315) (by decide) (ob_315 _) (q := (RX8, TX8, 18)) rfl) rfl hl.1 rfl (Nat.le_of_ble_eq_true rfl) hf dL_law_918) hp (fun r' J H locs h hp => ?_)
  refine lv_icmp_eq (tgt := 1378) hx hb dL_law_921 (by decide) (fun _ => ?_) (fun q => absurd h.1 q)
  exact K _ _ _ h.2 hp
set_option maxHeartbeats 4000000 in
set_option maxRecDepth 100000 in
theorem lc_who {E : EE} {p : Program} {l : Launch} {e : Env} {s : State} {m : MethodId} {args : Array Value} {below : List Frame} {meth : Method} {c : Code} {Q : State → Prop} {cells slots : Nat} (X : CX E p s m args meth c cL_law 4 ret RL) {b L i : Nat} {xs : Nat → Int32} (S : SC E.2.2.2.1 s b L xs) (hi : i + 7 ≤ L) (hf : cells ≤ room_1.cells ∧ slots ≤ room_1.slots) {I : II} (hI : INV I) {H : Heap} {locs : List Loc} {ls : Array Slot} (hp : PP E s H locs I) (hl : lv_has ls 4 [(3, .int (nI i)), (2, .ref (E.2.1 315)), (1, .ref (E.2.1 296)), (0, .ref b)]) (K : ∀ (J : II) (H1 : Heap) (locs1 : List Loc), INV J → PP E s H1 locs1 J → W p l e room_1 s m args below meth c H1 locs1 cells slots Q (F0 m 1378 ls [])) : W p l e room_1 s m args below meth c H locs cells slots Q (F0 m 926 ls []) := by
  obtain ⟨⟨hx, hb, hml, hown, hts⟩, hr, hlk, hK, hST, hN⟩ := id X
  refine lv_aload_n hx hb dL_law_926 rfl (lv_at hl 2 rfl) ?_
  refine lv_aload_n hx hb dL_law_927 rfl (lv_at hl 3 rfl) ?_
  refine lv_iload_n hx hb dL_law_928 rfl (lv_at hl 0 rfl) ?_
  refine lv_iconst (v := (nI 1)) hx hb dL_law_929 (by decide) ?_
  refine lv_iadd hx hb dL_law_930 ?_
  refine va_sld hx hb S.1 S.2.1 S.2.2.1 hp.2.2 (sc_in hi S.2.2.2 (by omega)) dL_law_931 ?_
  refine lv_aload_n hx hb dL_law_932 rfl (lv_at hl 3 rfl) ?_
  refine lv_iload_n hx hb dL_law_933 rfl (lv_at hl 0 rfl) ?_
  refine lv_iconst (v := (nI 2)) hx hb dL_law_934 (by decide) ?_
  refine lv_iadd hx hb dL_law_935 ?_
  refine va_sld hx hb S.1 S.2.1 S.2.2.1 hp.2.2 (sc_in hi S.2.2.2 (by omega)) dL_law_936 ?_
  refine lv_aload_n hx hb dL_law_937 rfl (lv_at hl 3 rfl) ?_
  refine lv_iload_n hx hb dL_law_938 rfl (lv_at hl 0 rfl) ?_
  refine lv_iconst (v := (nI 3)) hx hb dL_law_939 (by decide) ?_
  refine lv_iadd hx hb dL_law_940 ?_
  refine va_sld hx hb S.1 S.2.1 S.2.2.1 hp.2.2 (sc_in hi S.2.2.2 (by omega)) dL_law_941 ?_
  refine lv_aload_n hx hb dL_law_942 rfl (lv_at hl 3 rfl) ?_
  refine lv_iload_n hx hb dL_law_943 rfl (lv_at hl 0 rfl) ?_
  refine lv_iconst (v := (nI 4)) hx hb dL_law_944 (by decide) ?_
  refine lv_iadd hx hb dL_law_945 ?_
  refine va_sld hx hb S.1 S.2.1 S.2.2.1 hp.2.2 (sc_in hi S.2.2.2 (by omega)) dL_law_946 ?_
  refine lv_aload_n hx hb dL_law_947 rfl (lv_at hl 3 rfl) ?_
  refine lv_iload_n hx hb dL_law_948 rfl (lv_at hl 0 rfl) ?_
  refine lv_iconst (v := (nI 5)) hx hb dL_law_949 (by decide) ?_
  refine lv_iadd hx hb dL_law_950 ?_
  refine va_sld hx hb S.1 S.2.1 S.2.2.1 hp.2.2 (sc_in hi S.2.2.2 (by omega)) dL_law_951 ?_
  refine lv_aload_n hx hb dL_law_952 rfl (lv_at hl 3 rfl) ?_
  refine lv_iload_n hx hb dL_law_953 rfl (lv_at hl 0 rfl) ?_
  refine lv_bipush (v := (nI 6)) hx hb dL_law_954 (by decide) ?_
  refine lv_iadd hx hb dL_law_956 ?_
  refine va_sld hx hb S.1 S.2.1 S.2.2.1 hp.2.2 (sc_in hi S.2.2.2 (by omega)) dL_law_957 ?_
  refine ki2 (kV2 (As := [.int (xs (nI i + nI 1).toNatClampNeg), .int (xs (nI i + nI 2).toNatClampNeg), .int (xs (nI i + nI 3).toNatClampNeg), .int (xs (nI i + nI 4).toNatClampNeg), .int (xs (nI i + nI 5).toNatClampNeg), .int (xs (nI i + nI 6).toNatClampNeg)]) (rest := []) X hp (C_X7_who (s_who _ _ _ _ _ _ I hI)) tw_ml_L_130 vf_X7_who ⟨rfl, rfl, Nat.le_of_ble_eq_true rfl, Nat.le_of_ble_eq_true rfl⟩ (pr_rcv X hp (k := 296) (by decide) (ob_296 _) (q := (RX7, TX7, 9)) rfl) rfl hl.1 rfl (Nat.le_of_ble_eq_true rfl) hf dL_law_958) hp (fun r J H locs h hp => ?_)
  refine lv_aload_n hx hb dL_law_961 rfl (lv_at hl 1 rfl) ?_
  refine lv_aload_n hx hb dL_law_962 rfl (lv_at hl 3 rfl) ?_
  refine lv_iload_n hx hb dL_law_963 rfl (lv_at hl 0 rfl) ?_
  refine lv_iconst (v := (nI 1)) hx hb dL_law_964 (by decide) ?_
  refine lv_iadd hx hb dL_law_965 ?_
  refine va_sld hx hb S.1 S.2.1 S.2.2.1 hp.2.2 (sc_in hi S.2.2.2 (by omega)) dL_law_966 ?_
  refine lv_aload_n hx hb dL_law_967 rfl (lv_at hl 3 rfl) ?_
  refine lv_iload_n hx hb dL_law_968 rfl (lv_at hl 0 rfl) ?_
  refine lv_iconst (v := (nI 2)) hx hb dL_law_969 (by decide) ?_
  refine lv_iadd hx hb dL_law_970 ?_
  refine va_sld hx hb S.1 S.2.1 S.2.2.1 hp.2.2 (sc_in hi S.2.2.2 (by omega)) dL_law_971 ?_
  refine lv_aload_n hx hb dL_law_972 rfl (lv_at hl 3 rfl) ?_
  refine lv_iload_n hx hb dL_law_973 rfl (lv_at hl 0 rfl) ?_
  refine lv_iconst (v := (nI 3)) hx hb dL_law_974 (by decide) ?_
  refine lv_iadd hx hb dL_law_975 ?_
  refine va_sld hx hb S.1 S.2.1 S.2.2.1 hp.2.2 (sc_in hi S.2.2.2 (by omega)) dL_law_976 ?_
  refine lv_aload_n hx hb dL_law_977 rfl (lv_at hl 3 rfl) ?_
  refine lv_iload_n hx hb dL_law_978 rfl (lv_at hl 0 rfl) ?_
  refine lv_iconst (v := (nI 4)) hx hb dL_law_979 (by decide) ?_
  refine lv_iadd hx hb dL_law_980 ?_
  refine va_sld hx hb S.1 S.2.1 S.2.2.1 hp.2.2 (sc_in hi S.2.2.2 (by omega)) dL_law_981 ?_
  refine lv_aload_n hx hb dL_law_982 rfl (lv_at hl 3 rfl) ?_
  refine lv_iload_n hx hb dL_law_983 rfl (lv_at hl 0 rfl) ?_
  refine lv_iconst (v := (nI 5)) hx hb dL_law_984 (by decide) ?_
  refine lv_iadd hx hb dL_law_985 ?_
  refine va_sld hx hb S.1 S.2.1 S.2.2.1 hp.2.2 (sc_in hi S.2.2.2 (by omega)) dL_law_986 ?_
  refine lv_aload_n hx hb dL_law_987 rfl (lv_at hl 3 rfl) ?_
  refine lv_iload_n hx hb dL_law_988 rfl (lv_at hl 0 rfl) ?_
  refine lv_bipush (v := (nI 6)) hx hb dL_law_989 (by decide) ?_
  refine lv_iadd hx hb dL_law_991 ?_
  refine va_sld hx hb S.1 S.2.1 S.2.2.1 hp.2.2 (sc_in hi S.2.2.2 (by omega)) dL_law_992 ?_
  refine ki2 (kV2 (As := [.int (xs (nI i + nI 1).toNatClampNeg), .int (xs (nI i + nI 2).toNatClampNeg), .int (xs (nI i + nI 3).toNatClampNeg), .int (xs (nI i + nI 4).toNatClampNeg), .int (xs (nI i + nI 5).toNatClampNeg), .int (xs (nI i + nI 6).toNatClampNeg)]) (rest := [.int r]) X hp (C_X8_who h) tw_ml_L_134 vf_X8_who ⟨rfl, rfl, Nat.le_of_ble_eq_true rfl, Nat.le_of_ble_eq_true rfl⟩ (pr_rcv X hp (k := 315) (by decide) (ob_315 _) (q := (RX8, TX8, 18)) rfl) rfl hl.1 rfl (Nat.le_of_ble_eq_true rfl) hf dL_law_993) hp (fun r' J H locs h hp => ?_)
  refine lv_icmp_eq (tgt := 1378) hx hb dL_law_996 (by decide) (fun _ => ?_) (fun q => absurd h.1 q)
  exact K _ _ _ h.2 hp
set_option maxHeartbeats 4000000 in
set_option maxRecDepth 100000 in
theorem lc_sums {E : EE} {p : Program} {l : Launch} {e : Env} {s : State} {m : MethodId} {args : Array Value} {below : List Frame} {meth : Method} {c : Code} {Q : State → Prop} {cells slots : Nat} (X : CX E p s m args meth c cL_law 4 ret RL) {b L i : Nat} {xs : Nat → Int32} (S : SC E.2.2.2.1 s b L xs) (hi : i + 7 ≤ L) (hf : cells ≤ room_1.cells ∧ slots ≤ room_1.slots) {I : II} (hI : INV I) {H : Heap} {locs : List Loc} {ls : Array Slot} (hp : PP E s H locs I) (hl : lv_has ls 4 [(3, .int (nI i)), (2, .ref (E.2.1 315)), (1, .ref (E.2.1 296)), (0, .ref b)]) (K : ∀ (J : II) (H1 : Heap) (locs1 : List Loc), INV J → PP E s H1 locs1 J → W p l e room_1 s m args below meth c H1 locs1 cells slots Q (F0 m 1378 ls [])) : W p l e room_1 s m args below meth c H locs cells slots Q (F0 m 1001 ls []) := by
  obtain ⟨⟨hx, hb, hml, hown, hts⟩, hr, hlk, hK, hST, hN⟩ := id X
  refine lv_aload_n hx hb dL_law_1001 rfl (lv_at hl 2 rfl) ?_
  refine lv_aload_n hx hb dL_law_1002 rfl (lv_at hl 3 rfl) ?_
  refine lv_iload_n hx hb dL_law_1003 rfl (lv_at hl 0 rfl) ?_
  refine lv_iconst (v := (nI 1)) hx hb dL_law_1004 (by decide) ?_
  refine lv_iadd hx hb dL_law_1005 ?_
  refine va_sld hx hb S.1 S.2.1 S.2.2.1 hp.2.2 (sc_in hi S.2.2.2 (by omega)) dL_law_1006 ?_
  refine lv_aload_n hx hb dL_law_1007 rfl (lv_at hl 3 rfl) ?_
  refine lv_iload_n hx hb dL_law_1008 rfl (lv_at hl 0 rfl) ?_
  refine lv_iconst (v := (nI 2)) hx hb dL_law_1009 (by decide) ?_
  refine lv_iadd hx hb dL_law_1010 ?_
  refine va_sld hx hb S.1 S.2.1 S.2.2.1 hp.2.2 (sc_in hi S.2.2.2 (by omega)) dL_law_1011 ?_
  refine lv_aload_n hx hb dL_law_1012 rfl (lv_at hl 3 rfl) ?_
  refine lv_iload_n hx hb dL_law_1013 rfl (lv_at hl 0 rfl) ?_
  refine lv_iconst (v := (nI 3)) hx hb dL_law_1014 (by decide) ?_
  refine lv_iadd hx hb dL_law_1015 ?_
  refine va_sld hx hb S.1 S.2.1 S.2.2.1 hp.2.2 (sc_in hi S.2.2.2 (by omega)) dL_law_1016 ?_
  refine lv_aload_n hx hb dL_law_1017 rfl (lv_at hl 3 rfl) ?_
  refine lv_iload_n hx hb dL_law_1018 rfl (lv_at hl 0 rfl) ?_
  refine lv_iconst (v := (nI 4)) hx hb dL_law_1019 (by decide) ?_
  refine lv_iadd hx hb dL_law_1020 ?_
  refine va_sld hx hb S.1 S.2.1 S.2.2.1 hp.2.2 (sc_in hi S.2.2.2 (by omega)) dL_law_1021 ?_
  refine ki2 (kV2 (As := [.int (xs (nI i + nI 1).toNatClampNeg), .int (xs (nI i + nI 2).toNatClampNeg), .int (xs (nI i + nI 3).toNatClampNeg), .int (xs (nI i + nI 4).toNatClampNeg)]) (rest := []) X hp (C_X7_sums (s_sums _ _ _ _ I hI)) tw_ml_L_135 vf_X7_sums ⟨rfl, rfl, Nat.le_of_ble_eq_true rfl, Nat.le_of_ble_eq_true rfl⟩ (pr_rcv X hp (k := 296) (by decide) (ob_296 _) (q := (RX7, TX7, 9)) rfl) rfl hl.1 rfl (Nat.le_of_ble_eq_true rfl) hf dL_law_1022) hp (fun r J H locs h hp => ?_)
  refine lv_aload_n hx hb dL_law_1025 rfl (lv_at hl 1 rfl) ?_
  refine lv_aload_n hx hb dL_law_1026 rfl (lv_at hl 3 rfl) ?_
  refine lv_iload_n hx hb dL_law_1027 rfl (lv_at hl 0 rfl) ?_
  refine lv_iconst (v := (nI 1)) hx hb dL_law_1028 (by decide) ?_
  refine lv_iadd hx hb dL_law_1029 ?_
  refine va_sld hx hb S.1 S.2.1 S.2.2.1 hp.2.2 (sc_in hi S.2.2.2 (by omega)) dL_law_1030 ?_
  refine lv_aload_n hx hb dL_law_1031 rfl (lv_at hl 3 rfl) ?_
  refine lv_iload_n hx hb dL_law_1032 rfl (lv_at hl 0 rfl) ?_
  refine lv_iconst (v := (nI 2)) hx hb dL_law_1033 (by decide) ?_
  refine lv_iadd hx hb dL_law_1034 ?_
  refine va_sld hx hb S.1 S.2.1 S.2.2.1 hp.2.2 (sc_in hi S.2.2.2 (by omega)) dL_law_1035 ?_
  refine lv_aload_n hx hb dL_law_1036 rfl (lv_at hl 3 rfl) ?_
  refine lv_iload_n hx hb dL_law_1037 rfl (lv_at hl 0 rfl) ?_
  refine lv_iconst (v := (nI 3)) hx hb dL_law_1038 (by decide) ?_
  refine lv_iadd hx hb dL_law_1039 ?_
  refine va_sld hx hb S.1 S.2.1 S.2.2.1 hp.2.2 (sc_in hi S.2.2.2 (by omega)) dL_law_1040 ?_
  refine lv_aload_n hx hb dL_law_1041 rfl (lv_at hl 3 rfl) ?_
  refine lv_iload_n hx hb dL_law_1042 rfl (lv_at hl 0 rfl) ?_
  refine lv_iconst (v := (nI 4)) hx hb dL_law_1043 (by decide) ?_
  refine lv_iadd hx hb dL_law_1044 ?_
  refine va_sld hx hb S.1 S.2.1 S.2.2.1 hp.2.2 (sc_in hi S.2.2.2 (by omega)) dL_law_1045 ?_
  refine ki2 (kV2 (As := [.int (xs (nI i + nI 1).toNatClampNeg), .int (xs (nI i + nI 2).toNatClampNeg), .int (xs (nI i + nI 3).toNatClampNeg), .int (xs (nI i + nI 4).toNatClampNeg)]) (rest := [.int r]) X hp (C_X8_sums h) tw_ml_L_139 vf_X8_sums ⟨rfl, rfl, Nat.le_of_ble_eq_true rfl, Nat.le_of_ble_eq_true rfl⟩ (pr_rcv X hp (k := 315) (by decide) (ob_315 _) (q := (RX8, TX8, 18)) rfl) rfl hl.1 rfl (Nat.le_of_ble_eq_true rfl) hf dL_law_1046) hp (fun r' J H locs h hp => ?_)
  refine lv_icmp_eq (tgt := 1378) hx hb dL_law_1049 (by decide) (fun _ => ?_) (fun q => absurd h.1 q)
  exact K _ _ _ h.2 hp
set_option maxHeartbeats 4000000 in
set_option maxRecDepth 100000 in
theorem lc_stayed {E : EE} {p : Program} {l : Launch} {e : Env} {s : State} {m : MethodId} {args : Array Value} {below : List Frame} {meth : Method} {c : Code} {Q : State → Prop} {cells slots : Nat} (X : CX E p s m args meth c cL_law 4 ret RL) {b L i : Nat} {xs : Nat → Int32} (S : SC E.2.2.2.1 s b L xs) (hi : i + 7 ≤ L) (hf : cells ≤ room_1.cells ∧ slots ≤ room_1.slots) {I : II} (hI : INV I) {H : Heap} {locs : List Loc} {ls : Array Slot} (hp : PP E s H locs I) (hl : lv_has ls 4 [(3, .int (nI i)), (2, .ref (E.2.1 315)), (1, .ref (E.2.1 296)), (0, .ref b)]) (K : ∀ (J : II) (H1 : Heap) (locs1 : List Loc), INV J → PP E s H1 locs1 J → W p l e room_1 s m args below meth c H1 locs1 cells slots Q (F0 m 1378 ls [])) : W p l e room_1 s m args below meth c H locs cells slots Q (F0 m 1054 ls []) := by
  obtain ⟨⟨hx, hb, hml, hown, hts⟩, hr, hlk, hK, hST, hN⟩ := id X
  refine lv_aload_n hx hb dL_law_1054 rfl (lv_at hl 2 rfl) ?_
  refine lv_aload_n hx hb dL_law_1055 rfl (lv_at hl 3 rfl) ?_
  refine lv_iload_n hx hb dL_law_1056 rfl (lv_at hl 0 rfl) ?_
  refine lv_iconst (v := (nI 1)) hx hb dL_law_1057 (by decide) ?_
  refine lv_iadd hx hb dL_law_1058 ?_
  refine va_sld hx hb S.1 S.2.1 S.2.2.1 hp.2.2 (sc_in hi S.2.2.2 (by omega)) dL_law_1059 ?_
  refine lv_aload_n hx hb dL_law_1060 rfl (lv_at hl 3 rfl) ?_
  refine lv_iload_n hx hb dL_law_1061 rfl (lv_at hl 0 rfl) ?_
  refine lv_iconst (v := (nI 2)) hx hb dL_law_1062 (by decide) ?_
  refine lv_iadd hx hb dL_law_1063 ?_
  refine va_sld hx hb S.1 S.2.1 S.2.2.1 hp.2.2 (sc_in hi S.2.2.2 (by omega)) dL_law_1064 ?_
  refine lv_aload_n hx hb dL_law_1065 rfl (lv_at hl 3 rfl) ?_
  refine lv_iload_n hx hb dL_law_1066 rfl (lv_at hl 0 rfl) ?_
  refine lv_iconst (v := (nI 3)) hx hb dL_law_1067 (by decide) ?_
  refine lv_iadd hx hb dL_law_1068 ?_
  refine va_sld hx hb S.1 S.2.1 S.2.2.1 hp.2.2 (sc_in hi S.2.2.2 (by omega)) dL_law_1069 ?_
  refine lv_aload_n hx hb dL_law_1070 rfl (lv_at hl 3 rfl) ?_
  refine lv_iload_n hx hb dL_law_1071 rfl (lv_at hl 0 rfl) ?_
  refine lv_iconst (v := (nI 4)) hx hb dL_law_1072 (by decide) ?_
  refine lv_iadd hx hb dL_law_1073 ?_
  refine va_sld hx hb S.1 S.2.1 S.2.2.1 hp.2.2 (sc_in hi S.2.2.2 (by omega)) dL_law_1074 ?_
  refine ki2 (kV2 (As := [.int (xs (nI i + nI 1).toNatClampNeg), .int (xs (nI i + nI 2).toNatClampNeg), .int (xs (nI i + nI 3).toNatClampNeg), .int (xs (nI i + nI 4).toNatClampNeg)]) (rest := []) X hp (C_X7_stayed (s_stayed _ _ _ _ I hI)) tw_ml_L_140 vf_X7_stayed ⟨rfl, rfl, Nat.le_of_ble_eq_true rfl, Nat.le_of_ble_eq_true rfl⟩ (pr_rcv X hp (k := 296) (by decide) (ob_296 _) (q := (RX7, TX7, 9)) rfl) rfl hl.1 rfl (Nat.le_of_ble_eq_true rfl) hf dL_law_1075) hp (fun r J H locs h hp => ?_)
  refine lv_aload_n hx hb dL_law_1078 rfl (lv_at hl 1 rfl) ?_
  refine lv_aload_n hx hb dL_law_1079 rfl (lv_at hl 3 rfl) ?_
  refine lv_iload_n hx hb dL_law_1080 rfl (lv_at hl 0 rfl) ?_
  refine lv_iconst (v := (nI 1)) hx hb dL_law_1081 (by decide) ?_
  refine lv_iadd hx hb dL_law_1082 ?_
  refine va_sld hx hb S.1 S.2.1 S.2.2.1 hp.2.2 (sc_in hi S.2.2.2 (by omega)) dL_law_1083 ?_
  refine lv_aload_n hx hb dL_law_1084 rfl (lv_at hl 3 rfl) ?_
  refine lv_iload_n hx hb dL_law_1085 rfl (lv_at hl 0 rfl) ?_
  refine lv_iconst (v := (nI 2)) hx hb dL_law_1086 (by decide) ?_
  refine lv_iadd hx hb dL_law_1087 ?_
  refine va_sld hx hb S.1 S.2.1 S.2.2.1 hp.2.2 (sc_in hi S.2.2.2 (by omega)) dL_law_1088 ?_
  refine lv_aload_n hx hb dL_law_1089 rfl (lv_at hl 3 rfl) ?_
  refine lv_iload_n hx hb dL_law_1090 rfl (lv_at hl 0 rfl) ?_
  refine lv_iconst (v := (nI 3)) hx hb dL_law_1091 (by decide) ?_
  refine lv_iadd hx hb dL_law_1092 ?_
  refine va_sld hx hb S.1 S.2.1 S.2.2.1 hp.2.2 (sc_in hi S.2.2.2 (by omega)) dL_law_1093 ?_
  refine lv_aload_n hx hb dL_law_1094 rfl (lv_at hl 3 rfl) ?_
  refine lv_iload_n hx hb dL_law_1095 rfl (lv_at hl 0 rfl) ?_
  refine lv_iconst (v := (nI 4)) hx hb dL_law_1096 (by decide) ?_
  refine lv_iadd hx hb dL_law_1097 ?_
  refine va_sld hx hb S.1 S.2.1 S.2.2.1 hp.2.2 (sc_in hi S.2.2.2 (by omega)) dL_law_1098 ?_
  refine ki2 (kV2 (As := [.int (xs (nI i + nI 1).toNatClampNeg), .int (xs (nI i + nI 2).toNatClampNeg), .int (xs (nI i + nI 3).toNatClampNeg), .int (xs (nI i + nI 4).toNatClampNeg)]) (rest := [.int r]) X hp (C_X8_stayed h) tw_ml_L_143 vf_X8_stayed ⟨rfl, rfl, Nat.le_of_ble_eq_true rfl, Nat.le_of_ble_eq_true rfl⟩ (pr_rcv X hp (k := 315) (by decide) (ob_315 _) (q := (RX8, TX8, 18)) rfl) rfl hl.1 rfl (Nat.le_of_ble_eq_true rfl) hf dL_law_1099) hp (fun r' J H locs h hp => ?_)
  refine lv_icmp_eq (tgt := 1378) hx hb dL_law_1102 (by decide) (fun _ => ?_) (fun q => absurd h.1 q)
  exact K _ _ _ h.2 hp
set_option maxHeartbeats 4000000 in
set_option maxRecDepth 100000 in
theorem lc_away {E : EE} {p : Program} {l : Launch} {e : Env} {s : State} {m : MethodId} {args : Array Value} {below : List Frame} {meth : Method} {c : Code} {Q : State → Prop} {cells slots : Nat} (X : CX E p s m args meth c cL_law 4 ret RL) {b L i : Nat} {xs : Nat → Int32} (S : SC E.2.2.2.1 s b L xs) (hi : i + 7 ≤ L) (hf : cells ≤ room_1.cells ∧ slots ≤ room_1.slots) {I : II} (hI : INV I) {H : Heap} {locs : List Loc} {ls : Array Slot} (hp : PP E s H locs I) (hl : lv_has ls 4 [(3, .int (nI i)), (2, .ref (E.2.1 315)), (1, .ref (E.2.1 296)), (0, .ref b)]) (K : ∀ (J : II) (H1 : Heap) (locs1 : List Loc), INV J → PP E s H1 locs1 J → W p l e room_1 s m args below meth c H1 locs1 cells slots Q (F0 m 1378 ls [])) : W p l e room_1 s m args below meth c H locs cells slots Q (F0 m 1107 ls []) := by
  obtain ⟨⟨hx, hb, hml, hown, hts⟩, hr, hlk, hK, hST, hN⟩ := id X
  refine lv_aload_n hx hb dL_law_1107 rfl (lv_at hl 2 rfl) ?_
  refine lv_aload_n hx hb dL_law_1108 rfl (lv_at hl 3 rfl) ?_
  refine lv_iload_n hx hb dL_law_1109 rfl (lv_at hl 0 rfl) ?_
  refine lv_iconst (v := (nI 1)) hx hb dL_law_1110 (by decide) ?_
  refine lv_iadd hx hb dL_law_1111 ?_
  refine va_sld hx hb S.1 S.2.1 S.2.2.1 hp.2.2 (sc_in hi S.2.2.2 (by omega)) dL_law_1112 ?_
  refine lv_aload_n hx hb dL_law_1113 rfl (lv_at hl 3 rfl) ?_
  refine lv_iload_n hx hb dL_law_1114 rfl (lv_at hl 0 rfl) ?_
  refine lv_iconst (v := (nI 2)) hx hb dL_law_1115 (by decide) ?_
  refine lv_iadd hx hb dL_law_1116 ?_
  refine va_sld hx hb S.1 S.2.1 S.2.2.1 hp.2.2 (sc_in hi S.2.2.2 (by omega)) dL_law_1117 ?_
  refine kl2 (kV2 (As := [.int (xs (nI i + nI 1).toNatClampNeg), .int (xs (nI i + nI 2).toNatClampNeg)]) (rest := []) X hp (C_X7_away (s_away _ _ I hI)) tw_ml_L_144 vf_X7_away ⟨rfl, rfl, Nat.le_of_ble_eq_true rfl, Nat.le_of_ble_eq_true rfl⟩ (pr_rcv X hp (k := 296) (by decide) (ob_296 _) (q := (RX7, TX7, 9)) rfl) rfl hl.1 rfl (Nat.le_of_ble_eq_true rfl) hf dL_law_1118) hp (fun r J H locs h hp => ?_)
  refine lv_aload_n hx hb dL_law_1121 rfl (lv_at hl 1 rfl) ?_
  refine lv_aload_n hx hb dL_law_1122 rfl (lv_at hl 3 rfl) ?_
  refine lv_iload_n hx hb dL_law_1123 rfl (lv_at hl 0 rfl) ?_
  refine lv_iconst (v := (nI 1)) hx hb dL_law_1124 (by decide) ?_
  refine lv_iadd hx hb dL_law_1125 ?_
  refine va_sld hx hb S.1 S.2.1 S.2.2.1 hp.2.2 (sc_in hi S.2.2.2 (by omega)) dL_law_1126 ?_
  refine lv_aload_n hx hb dL_law_1127 rfl (lv_at hl 3 rfl) ?_
  refine lv_iload_n hx hb dL_law_1128 rfl (lv_at hl 0 rfl) ?_
  refine lv_iconst (v := (nI 2)) hx hb dL_law_1129 (by decide) ?_
  refine lv_iadd hx hb dL_law_1130 ?_
  refine va_sld hx hb S.1 S.2.1 S.2.2.1 hp.2.2 (sc_in hi S.2.2.2 (by omega)) dL_law_1131 ?_
  refine kl2 (kV2 (As := [.int (xs (nI i + nI 1).toNatClampNeg), .int (xs (nI i + nI 2).toNatClampNeg)]) (rest := [.long r]) X hp (C_X8_away h) tw_ml_L_148 vf_X8_away ⟨rfl, rfl, Nat.le_of_ble_eq_true rfl, Nat.le_of_ble_eq_true rfl⟩ (pr_rcv X hp (k := 315) (by decide) (ob_315 _) (q := (RX8, TX8, 18)) rfl) rfl hl.1 rfl (Nat.le_of_ble_eq_true rfl) hf dL_law_1132) hp (fun r' J H locs h hp => ?_)
  refine W.lcmp hx hb dL_law_1135 ?_
  refine lv_if_eq (tgt := 1378) hx hb dL_law_1136 (by decide) (fun _ => ?_) (fun q => absurd (by rw [h.1]; exact lg_self _) q)
  exact K _ _ _ h.2 hp
set_option maxHeartbeats 4000000 in
set_option maxRecDepth 100000 in
theorem lc_drawn {E : EE} {p : Program} {l : Launch} {e : Env} {s : State} {m : MethodId} {args : Array Value} {below : List Frame} {meth : Method} {c : Code} {Q : State → Prop} {cells slots : Nat} (X : CX E p s m args meth c cL_law 4 ret RL) {b L i : Nat} {xs : Nat → Int32} (S : SC E.2.2.2.1 s b L xs) (hi : i + 7 ≤ L) (hf : cells ≤ room_1.cells ∧ slots ≤ room_1.slots) {I : II} (hI : INV I) {H : Heap} {locs : List Loc} {ls : Array Slot} (hp : PP E s H locs I) (hl : lv_has ls 4 [(3, .int (nI i)), (2, .ref (E.2.1 315)), (1, .ref (E.2.1 296)), (0, .ref b)]) (K : ∀ (J : II) (H1 : Heap) (locs1 : List Loc), INV J → PP E s H1 locs1 J → W p l e room_1 s m args below meth c H1 locs1 cells slots Q (F0 m 1378 ls [])) : W p l e room_1 s m args below meth c H locs cells slots Q (F0 m 1141 ls []) := by
  obtain ⟨⟨hx, hb, hml, hown, hts⟩, hr, hlk, hK, hST, hN⟩ := id X
  refine lv_aload_n hx hb dL_law_1141 rfl (lv_at hl 2 rfl) ?_
  refine lv_aload_n hx hb dL_law_1142 rfl (lv_at hl 3 rfl) ?_
  refine lv_iload_n hx hb dL_law_1143 rfl (lv_at hl 0 rfl) ?_
  refine lv_iconst (v := (nI 1)) hx hb dL_law_1144 (by decide) ?_
  refine lv_iadd hx hb dL_law_1145 ?_
  refine va_sld hx hb S.1 S.2.1 S.2.2.1 hp.2.2 (sc_in hi S.2.2.2 (by omega)) dL_law_1146 ?_
  refine lv_aload_n hx hb dL_law_1147 rfl (lv_at hl 3 rfl) ?_
  refine lv_iload_n hx hb dL_law_1148 rfl (lv_at hl 0 rfl) ?_
  refine lv_iconst (v := (nI 2)) hx hb dL_law_1149 (by decide) ?_
  refine lv_iadd hx hb dL_law_1150 ?_
  refine va_sld hx hb S.1 S.2.1 S.2.2.1 hp.2.2 (sc_in hi S.2.2.2 (by omega)) dL_law_1151 ?_
  refine lv_aload_n hx hb dL_law_1152 rfl (lv_at hl 3 rfl) ?_
  refine lv_iload_n hx hb dL_law_1153 rfl (lv_at hl 0 rfl) ?_
  refine lv_iconst (v := (nI 3)) hx hb dL_law_1154 (by decide) ?_
  refine lv_iadd hx hb dL_law_1155 ?_
  refine va_sld hx hb S.1 S.2.1 S.2.2.1 hp.2.2 (sc_in hi S.2.2.2 (by omega)) dL_law_1156 ?_
  refine ki2 (kV2 (As := [.int (xs (nI i + nI 1).toNatClampNeg), .int (xs (nI i + nI 2).toNatClampNeg), .int (xs (nI i + nI 3).toNatClampNeg)]) (rest := []) X hp (C_X7_drawn (s_drawn _ _ _ I hI)) tw_ml_L_149 vf_X7_drawn ⟨rfl, rfl, Nat.le_of_ble_eq_true rfl, Nat.le_of_ble_eq_true rfl⟩ (pr_rcv X hp (k := 296) (by decide) (ob_296 _) (q := (RX7, TX7, 9)) rfl) rfl hl.1 rfl (Nat.le_of_ble_eq_true rfl) hf dL_law_1157) hp (fun r J H locs h hp => ?_)
  refine lv_aload_n hx hb dL_law_1160 rfl (lv_at hl 1 rfl) ?_
  refine lv_aload_n hx hb dL_law_1161 rfl (lv_at hl 3 rfl) ?_
  refine lv_iload_n hx hb dL_law_1162 rfl (lv_at hl 0 rfl) ?_
  refine lv_iconst (v := (nI 1)) hx hb dL_law_1163 (by decide) ?_
  refine lv_iadd hx hb dL_law_1164 ?_
  refine va_sld hx hb S.1 S.2.1 S.2.2.1 hp.2.2 (sc_in hi S.2.2.2 (by omega)) dL_law_1165 ?_
  refine lv_aload_n hx hb dL_law_1166 rfl (lv_at hl 3 rfl) ?_
  refine lv_iload_n hx hb dL_law_1167 rfl (lv_at hl 0 rfl) ?_
  refine lv_iconst (v := (nI 2)) hx hb dL_law_1168 (by decide) ?_
  refine lv_iadd hx hb dL_law_1169 ?_
  refine va_sld hx hb S.1 S.2.1 S.2.2.1 hp.2.2 (sc_in hi S.2.2.2 (by omega)) dL_law_1170 ?_
  refine lv_aload_n hx hb dL_law_1171 rfl (lv_at hl 3 rfl) ?_
  refine lv_iload_n hx hb dL_law_1172 rfl (lv_at hl 0 rfl) ?_
  refine lv_iconst (v := (nI 3)) hx hb dL_law_1173 (by decide) ?_
  refine lv_iadd hx hb dL_law_1174 ?_
  refine va_sld hx hb S.1 S.2.1 S.2.2.1 hp.2.2 (sc_in hi S.2.2.2 (by omega)) dL_law_1175 ?_
  refine ki2 (kV2 (As := [.int (xs (nI i + nI 1).toNatClampNeg), .int (xs (nI i + nI 2).toNatClampNeg), .int (xs (nI i + nI 3).toNatClampNeg)]) (rest := [.int r]) X hp (C_X8_drawn h) tw_ml_L_152 vf_X8_drawn ⟨rfl, rfl, Nat.le_of_ble_eq_true rfl, Nat.le_of_ble_eq_true rfl⟩ (pr_rcv X hp (k := 315) (by decide) (ob_315 _) (q := (RX8, TX8, 18)) rfl) rfl hl.1 rfl (Nat.le_of_ble_eq_true rfl) hf dL_law_1176) hp (fun r' J H locs h hp => ?_)
  refine lv_icmp_eq (tgt := 1378) hx hb dL_law_1179 (by decide) (fun _ => ?_) (fun q => absurd h.1 q)
  exact K _ _ _ h.2 hp
set_option maxHeartbeats 4000000 in
set_option maxRecDepth 100000 in
theorem lc_image {E : EE} {p : Program} {l : Launch} {e : Env} {s : State} {m : MethodId} {args : Array Value} {below : List Frame} {meth : Method} {c : Code} {Q : State → Prop} {cells slots : Nat} (X : CX E p s m args meth c cL_law 4 ret RL) {b L i : Nat} {xs : Nat → Int32} (S : SC E.2.2.2.1 s b L xs) (hi : i + 7 ≤ L) (hf : cells ≤ room_1.cells ∧ slots ≤ room_1.slots) {I : II} (hI : INV I) {H : Heap} {locs : List Loc} {ls : Array Slot} (hp : PP E s H locs I) (hl : lv_has ls 4 [(3, .int (nI i)), (2, .ref (E.2.1 315)), (1, .ref (E.2.1 296)), (0, .ref b)]) (K : ∀ (J : II) (H1 : Heap) (locs1 : List Loc), INV J → PP E s H1 locs1 J → W p l e room_1 s m args below meth c H1 locs1 cells slots Q (F0 m 1378 ls [])) : W p l e room_1 s m args below meth c H locs cells slots Q (F0 m 1184 ls []) := by
  obtain ⟨⟨hx, hb, hml, hown, hts⟩, hr, hlk, hK, hST, hN⟩ := id X
  refine lv_aload_n hx hb dL_law_1184 rfl (lv_at hl 2 rfl) ?_
  refine lv_aload_n hx hb dL_law_1185 rfl (lv_at hl 3 rfl) ?_
  refine lv_iload_n hx hb dL_law_1186 rfl (lv_at hl 0 rfl) ?_
  refine lv_iconst (v := (nI 1)) hx hb dL_law_1187 (by decide) ?_
  refine lv_iadd hx hb dL_law_1188 ?_
  refine va_sld hx hb S.1 S.2.1 S.2.2.1 hp.2.2 (sc_in hi S.2.2.2 (by omega)) dL_law_1189 ?_
  refine ki2 (kV2 (As := [.int (xs (nI i + nI 1).toNatClampNeg)]) (rest := []) X hp (C_X7_image (s_image _ I hI)) tw_ml_L_153 vf_X7_image ⟨rfl, rfl, Nat.le_of_ble_eq_true rfl, Nat.le_of_ble_eq_true rfl⟩ (pr_rcv X hp (k := 296) (by decide) (ob_296 _) (q := (RX7, TX7, 9)) rfl) rfl hl.1 rfl (Nat.le_of_ble_eq_true rfl) hf dL_law_1190) hp (fun r J H locs h hp => ?_)
  refine lv_aload_n hx hb dL_law_1193 rfl (lv_at hl 1 rfl) ?_
  refine lv_aload_n hx hb dL_law_1194 rfl (lv_at hl 3 rfl) ?_
  refine lv_iload_n hx hb dL_law_1195 rfl (lv_at hl 0 rfl) ?_
  refine lv_iconst (v := (nI 1)) hx hb dL_law_1196 (by decide) ?_
  refine lv_iadd hx hb dL_law_1197 ?_
  refine va_sld hx hb S.1 S.2.1 S.2.2.1 hp.2.2 (sc_in hi S.2.2.2 (by omega)) dL_law_1198 ?_
  refine ki2 (kV2 (As := [.int (xs (nI i + nI 1).toNatClampNeg)]) (rest := [.int r]) X hp (C_X8_image h) tw_ml_L_156 vf_X8_image ⟨rfl, rfl, Nat.le_of_ble_eq_true rfl, Nat.le_of_ble_eq_true rfl⟩ (pr_rcv X hp (k := 315) (by decide) (ob_315 _) (q := (RX8, TX8, 18)) rfl) rfl hl.1 rfl (Nat.le_of_ble_eq_true rfl) hf dL_law_1199) hp (fun r' J H locs h hp => ?_)
  refine lv_icmp_eq (tgt := 1378) hx hb dL_law_1202 (by decide) (fun _ => ?_) (fun q => absurd h.1 q)
  exact K _ _ _ h.2 hp
set_option maxHeartbeats 4000000 in
set_option maxRecDepth 100000 in
theorem lc_restore {E : EE} {p : Program} {l : Launch} {e : Env} {s : State} {m : MethodId} {args : Array Value} {below : List Frame} {meth : Method} {c : Code} {Q : State → Prop} {cells slots : Nat} (X : CX E p s m args meth c cL_law 4 ret RL) {b L i : Nat} {xs : Nat → Int32} (S : SC E.2.2.2.1 s b L xs) (hi : i + 7 ≤ L) (hf : cells ≤ room_1.cells ∧ slots ≤ room_1.slots) {I : II} (hI : INV I) {H : Heap} {locs : List Loc} {ls : Array Slot} (hp : PP E s H locs I) (hl : lv_has ls 4 [(3, .int (nI i)), (2, .ref (E.2.1 315)), (1, .ref (E.2.1 296)), (0, .ref b)]) (K : ∀ (J : II) (H1 : Heap) (locs1 : List Loc), INV J → PP E s H1 locs1 J → W p l e room_1 s m args below meth c H1 locs1 cells slots Q (F0 m 1378 ls [])) : W p l e room_1 s m args below meth c H locs cells slots Q (F0 m 1207 ls []) := by
  obtain ⟨⟨hx, hb, hml, hown, hts⟩, hr, hlk, hK, hST, hN⟩ := id X
  refine lv_aload_n hx hb dL_law_1207 rfl (lv_at hl 2 rfl) ?_
  refine lv_aload_n hx hb dL_law_1208 rfl (lv_at hl 3 rfl) ?_
  refine lv_iload_n hx hb dL_law_1209 rfl (lv_at hl 0 rfl) ?_
  refine lv_iconst (v := (nI 1)) hx hb dL_law_1210 (by decide) ?_
  refine lv_iadd hx hb dL_law_1211 ?_
  refine va_sld hx hb S.1 S.2.1 S.2.2.1 hp.2.2 (sc_in hi S.2.2.2 (by omega)) dL_law_1212 ?_
  refine ki2 (kV2 (As := [.int (xs (nI i + nI 1).toNatClampNeg)]) (rest := []) X hp (C_X7_restore (s_restore _ I hI)) tw_ml_L_157 vf_X7_restore ⟨rfl, rfl, Nat.le_of_ble_eq_true rfl, Nat.le_of_ble_eq_true rfl⟩ (pr_rcv X hp (k := 296) (by decide) (ob_296 _) (q := (RX7, TX7, 9)) rfl) rfl hl.1 rfl (Nat.le_of_ble_eq_true rfl) hf dL_law_1213) hp (fun r J H locs h hp => ?_)
  refine lv_aload_n hx hb dL_law_1216 rfl (lv_at hl 1 rfl) ?_
  refine lv_aload_n hx hb dL_law_1217 rfl (lv_at hl 3 rfl) ?_
  refine lv_iload_n hx hb dL_law_1218 rfl (lv_at hl 0 rfl) ?_
  refine lv_iconst (v := (nI 1)) hx hb dL_law_1219 (by decide) ?_
  refine lv_iadd hx hb dL_law_1220 ?_
  refine va_sld hx hb S.1 S.2.1 S.2.2.1 hp.2.2 (sc_in hi S.2.2.2 (by omega)) dL_law_1221 ?_
  refine ki2 (kV2 (As := [.int (xs (nI i + nI 1).toNatClampNeg)]) (rest := [.int r]) X hp (C_X8_restore h) tw_ml_L_160 vf_X8_restore ⟨rfl, rfl, Nat.le_of_ble_eq_true rfl, Nat.le_of_ble_eq_true rfl⟩ (pr_rcv X hp (k := 315) (by decide) (ob_315 _) (q := (RX8, TX8, 18)) rfl) rfl hl.1 rfl (Nat.le_of_ble_eq_true rfl) hf dL_law_1222) hp (fun r' J H locs h hp => ?_)
  refine lv_icmp_eq (tgt := 1378) hx hb dL_law_1225 (by decide) (fun _ => ?_) (fun q => absurd h.1 q)
  exact K _ _ _ h.2 hp
set_option maxHeartbeats 4000000 in
set_option maxRecDepth 100000 in
theorem lc_kind {E : EE} {p : Program} {l : Launch} {e : Env} {s : State} {m : MethodId} {args : Array Value} {below : List Frame} {meth : Method} {c : Code} {Q : State → Prop} {cells slots : Nat} (X : CX E p s m args meth c cL_law 4 ret RL) {b L i : Nat} {xs : Nat → Int32} (S : SC E.2.2.2.1 s b L xs) (hi : i + 7 ≤ L) (hf : cells ≤ room_1.cells ∧ slots ≤ room_1.slots) {I : II} (hI : INV I) {H : Heap} {locs : List Loc} {ls : Array Slot} (hp : PP E s H locs I) (hl : lv_has ls 4 [(3, .int (nI i)), (2, .ref (E.2.1 315)), (1, .ref (E.2.1 296)), (0, .ref b)]) (K : ∀ (J : II) (H1 : Heap) (locs1 : List Loc), INV J → PP E s H1 locs1 J → W p l e room_1 s m args below meth c H1 locs1 cells slots Q (F0 m 1378 ls [])) : W p l e room_1 s m args below meth c H locs cells slots Q (F0 m 1230 ls []) := by
  obtain ⟨⟨hx, hb, hml, hown, hts⟩, hr, hlk, hK, hST, hN⟩ := id X
  refine lv_aload_n hx hb dL_law_1230 rfl (lv_at hl 2 rfl) ?_
  refine lv_aload_n hx hb dL_law_1231 rfl (lv_at hl 3 rfl) ?_
  refine lv_iload_n hx hb dL_law_1232 rfl (lv_at hl 0 rfl) ?_
  refine lv_iconst (v := (nI 1)) hx hb dL_law_1233 (by decide) ?_
  refine lv_iadd hx hb dL_law_1234 ?_
  refine va_sld hx hb S.1 S.2.1 S.2.2.1 hp.2.2 (sc_in hi S.2.2.2 (by omega)) dL_law_1235 ?_
  refine ki2 (kV2 (As := [.int (xs (nI i + nI 1).toNatClampNeg)]) (rest := []) X hp (C_X7_kind (s_kind _ I hI)) tw_ml_L_161 vf_X7_kind ⟨rfl, rfl, Nat.le_of_ble_eq_true rfl, Nat.le_of_ble_eq_true rfl⟩ (pr_rcv X hp (k := 296) (by decide) (ob_296 _) (q := (RX7, TX7, 9)) rfl) rfl hl.1 rfl (Nat.le_of_ble_eq_true rfl) hf dL_law_1236) hp (fun r J H locs h hp => ?_)
  refine lv_aload_n hx hb dL_law_1239 rfl (lv_at hl 1 rfl) ?_
  refine lv_aload_n hx hb dL_law_1240 rfl (lv_at hl 3 rfl) ?_
  refine lv_iload_n hx hb dL_law_1241 rfl (lv_at hl 0 rfl) ?_
  refine lv_iconst (v := (nI 1)) hx hb dL_law_1242 (by decide) ?_
  refine lv_iadd hx hb dL_law_1243 ?_
  refine va_sld hx hb S.1 S.2.1 S.2.2.1 hp.2.2 (sc_in hi S.2.2.2 (by omega)) dL_law_1244 ?_
  refine ki2 (kV2 (As := [.int (xs (nI i + nI 1).toNatClampNeg)]) (rest := [.int r]) X hp (C_X8_kind h) tw_ml_L_164 vf_X8_kind ⟨rfl, rfl, Nat.le_of_ble_eq_true rfl, Nat.le_of_ble_eq_true rfl⟩ (pr_rcv X hp (k := 315) (by decide) (ob_315 _) (q := (RX8, TX8, 18)) rfl) rfl hl.1 rfl (Nat.le_of_ble_eq_true rfl) hf dL_law_1245) hp (fun r' J H locs h hp => ?_)
  refine lv_icmp_eq (tgt := 1378) hx hb dL_law_1248 (by decide) (fun _ => ?_) (fun q => absurd h.1 q)
  exact K _ _ _ h.2 hp
set_option maxHeartbeats 4000000 in
set_option maxRecDepth 100000 in
theorem lc_as {E : EE} {p : Program} {l : Launch} {e : Env} {s : State} {m : MethodId} {args : Array Value} {below : List Frame} {meth : Method} {c : Code} {Q : State → Prop} {cells slots : Nat} (X : CX E p s m args meth c cL_law 4 ret RL) {b L i : Nat} {xs : Nat → Int32} (S : SC E.2.2.2.1 s b L xs) (hi : i + 7 ≤ L) (hf : cells ≤ room_1.cells ∧ slots ≤ room_1.slots) {I : II} (hI : INV I) {H : Heap} {locs : List Loc} {ls : Array Slot} (hp : PP E s H locs I) (hl : lv_has ls 4 [(3, .int (nI i)), (2, .ref (E.2.1 315)), (1, .ref (E.2.1 296)), (0, .ref b)]) (K : ∀ (J : II) (H1 : Heap) (locs1 : List Loc), INV J → PP E s H1 locs1 J → W p l e room_1 s m args below meth c H1 locs1 cells slots Q (F0 m 1378 ls [])) : W p l e room_1 s m args below meth c H locs cells slots Q (F0 m 1253 ls []) := by
  obtain ⟨⟨hx, hb, hml, hown, hts⟩, hr, hlk, hK, hST, hN⟩ := id X
  refine lv_aload_n hx hb dL_law_1253 rfl (lv_at hl 2 rfl) ?_
  refine lv_aload_n hx hb dL_law_1254 rfl (lv_at hl 3 rfl) ?_
  refine lv_iload_n hx hb dL_law_1255 rfl (lv_at hl 0 rfl) ?_
  refine lv_iconst (v := (nI 1)) hx hb dL_law_1256 (by decide) ?_
  refine lv_iadd hx hb dL_law_1257 ?_
  refine va_sld hx hb S.1 S.2.1 S.2.2.1 hp.2.2 (sc_in hi S.2.2.2 (by omega)) dL_law_1258 ?_
  refine lv_aload_n hx hb dL_law_1259 rfl (lv_at hl 3 rfl) ?_
  refine lv_iload_n hx hb dL_law_1260 rfl (lv_at hl 0 rfl) ?_
  refine lv_iconst (v := (nI 2)) hx hb dL_law_1261 (by decide) ?_
  refine lv_iadd hx hb dL_law_1262 ?_
  refine va_sld hx hb S.1 S.2.1 S.2.2.1 hp.2.2 (sc_in hi S.2.2.2 (by omega)) dL_law_1263 ?_
  refine ki2 (kV2 (As := [.int (xs (nI i + nI 1).toNatClampNeg), .int (xs (nI i + nI 2).toNatClampNeg)]) (rest := []) X hp (C_X7_as (s_as _ _ I hI)) tw_ml_L_165 vf_X7_as ⟨rfl, rfl, Nat.le_of_ble_eq_true rfl, Nat.le_of_ble_eq_true rfl⟩ (pr_rcv X hp (k := 296) (by decide) (ob_296 _) (q := (RX7, TX7, 9)) rfl) rfl hl.1 rfl (Nat.le_of_ble_eq_true rfl) hf dL_law_1264) hp (fun r J H locs h hp => ?_)
  refine lv_aload_n hx hb dL_law_1267 rfl (lv_at hl 1 rfl) ?_
  refine lv_aload_n hx hb dL_law_1268 rfl (lv_at hl 3 rfl) ?_
  refine lv_iload_n hx hb dL_law_1269 rfl (lv_at hl 0 rfl) ?_
  refine lv_iconst (v := (nI 1)) hx hb dL_law_1270 (by decide) ?_
  refine lv_iadd hx hb dL_law_1271 ?_
  refine va_sld hx hb S.1 S.2.1 S.2.2.1 hp.2.2 (sc_in hi S.2.2.2 (by omega)) dL_law_1272 ?_
  refine lv_aload_n hx hb dL_law_1273 rfl (lv_at hl 3 rfl) ?_
  refine lv_iload_n hx hb dL_law_1274 rfl (lv_at hl 0 rfl) ?_
  refine lv_iconst (v := (nI 2)) hx hb dL_law_1275 (by decide) ?_
  refine lv_iadd hx hb dL_law_1276 ?_
  refine va_sld hx hb S.1 S.2.1 S.2.2.1 hp.2.2 (sc_in hi S.2.2.2 (by omega)) dL_law_1277 ?_
  refine ki2 (kV2 (As := [.int (xs (nI i + nI 1).toNatClampNeg), .int (xs (nI i + nI 2).toNatClampNeg)]) (rest := [.int r]) X hp (C_X8_as h) tw_ml_L_168 vf_X8_as ⟨rfl, rfl, Nat.le_of_ble_eq_true rfl, Nat.le_of_ble_eq_true rfl⟩ (pr_rcv X hp (k := 315) (by decide) (ob_315 _) (q := (RX8, TX8, 18)) rfl) rfl hl.1 rfl (Nat.le_of_ble_eq_true rfl) hf dL_law_1278) hp (fun r' J H locs h hp => ?_)
  refine lv_icmp_eq (tgt := 1378) hx hb dL_law_1281 (by decide) (fun _ => ?_) (fun q => absurd h.1 q)
  exact K _ _ _ h.2 hp
set_option maxHeartbeats 4000000 in
set_option maxRecDepth 100000 in
theorem lc_ask {E : EE} {p : Program} {l : Launch} {e : Env} {s : State} {m : MethodId} {args : Array Value} {below : List Frame} {meth : Method} {c : Code} {Q : State → Prop} {cells slots : Nat} (X : CX E p s m args meth c cL_law 4 ret RL) {b L i : Nat} {xs : Nat → Int32} (S : SC E.2.2.2.1 s b L xs) (hi : i + 7 ≤ L) (hf : cells ≤ room_1.cells ∧ slots ≤ room_1.slots) {I : II} (hI : INV I) {H : Heap} {locs : List Loc} {ls : Array Slot} (hp : PP E s H locs I) (hl : lv_has ls 4 [(3, .int (nI i)), (2, .ref (E.2.1 315)), (1, .ref (E.2.1 296)), (0, .ref b)]) (K : ∀ (J : II) (H1 : Heap) (locs1 : List Loc), INV J → PP E s H1 locs1 J → W p l e room_1 s m args below meth c H1 locs1 cells slots Q (F0 m 1378 ls [])) : W p l e room_1 s m args below meth c H locs cells slots Q (F0 m 1286 ls []) := by
  obtain ⟨⟨hx, hb, hml, hown, hts⟩, hr, hlk, hK, hST, hN⟩ := id X
  refine lv_aload_n hx hb dL_law_1286 rfl (lv_at hl 2 rfl) ?_
  refine lv_aload_n hx hb dL_law_1287 rfl (lv_at hl 3 rfl) ?_
  refine lv_iload_n hx hb dL_law_1288 rfl (lv_at hl 0 rfl) ?_
  refine lv_iconst (v := (nI 1)) hx hb dL_law_1289 (by decide) ?_
  refine lv_iadd hx hb dL_law_1290 ?_
  refine va_sld hx hb S.1 S.2.1 S.2.2.1 hp.2.2 (sc_in hi S.2.2.2 (by omega)) dL_law_1291 ?_
  refine lv_aload_n hx hb dL_law_1292 rfl (lv_at hl 3 rfl) ?_
  refine lv_iload_n hx hb dL_law_1293 rfl (lv_at hl 0 rfl) ?_
  refine lv_iconst (v := (nI 2)) hx hb dL_law_1294 (by decide) ?_
  refine lv_iadd hx hb dL_law_1295 ?_
  refine va_sld hx hb S.1 S.2.1 S.2.2.1 hp.2.2 (sc_in hi S.2.2.2 (by omega)) dL_law_1296 ?_
  refine ki2 (kV2 (As := [.int (xs (nI i + nI 1).toNatClampNeg), .int (xs (nI i + nI 2).toNatClampNeg)]) (rest := []) X hp (C_X7_ask (s_ask _ _ I hI)) tw_ml_L_169 vf_X7_ask ⟨rfl, rfl, Nat.le_of_ble_eq_true rfl, Nat.le_of_ble_eq_true rfl⟩ (pr_rcv X hp (k := 296) (by decide) (ob_296 _) (q := (RX7, TX7, 9)) rfl) rfl hl.1 rfl (Nat.le_of_ble_eq_true rfl) hf dL_law_1297) hp (fun r J H locs h hp => ?_)
  refine lv_aload_n hx hb dL_law_1300 rfl (lv_at hl 1 rfl) ?_
  refine lv_aload_n hx hb dL_law_1301 rfl (lv_at hl 3 rfl) ?_
  refine lv_iload_n hx hb dL_law_1302 rfl (lv_at hl 0 rfl) ?_
  refine lv_iconst (v := (nI 1)) hx hb dL_law_1303 (by decide) ?_
  refine lv_iadd hx hb dL_law_1304 ?_
  refine va_sld hx hb S.1 S.2.1 S.2.2.1 hp.2.2 (sc_in hi S.2.2.2 (by omega)) dL_law_1305 ?_
  refine lv_aload_n hx hb dL_law_1306 rfl (lv_at hl 3 rfl) ?_
  refine lv_iload_n hx hb dL_law_1307 rfl (lv_at hl 0 rfl) ?_
  refine lv_iconst (v := (nI 2)) hx hb dL_law_1308 (by decide) ?_
  refine lv_iadd hx hb dL_law_1309 ?_
  refine va_sld hx hb S.1 S.2.1 S.2.2.1 hp.2.2 (sc_in hi S.2.2.2 (by omega)) dL_law_1310 ?_
  refine ki2 (kV2 (As := [.int (xs (nI i + nI 1).toNatClampNeg), .int (xs (nI i + nI 2).toNatClampNeg)]) (rest := [.int r]) X hp (C_X8_ask h) tw_ml_L_172 vf_X8_ask ⟨rfl, rfl, Nat.le_of_ble_eq_true rfl, Nat.le_of_ble_eq_true rfl⟩ (pr_rcv X hp (k := 315) (by decide) (ob_315 _) (q := (RX8, TX8, 18)) rfl) rfl hl.1 rfl (Nat.le_of_ble_eq_true rfl) hf dL_law_1311) hp (fun r' J H locs h hp => ?_)
  refine lv_icmp_eq (tgt := 1378) hx hb dL_law_1314 (by decide) (fun _ => ?_) (fun q => absurd h.1 q)
  exact K _ _ _ h.2 hp
set_option maxHeartbeats 4000000 in
set_option maxRecDepth 100000 in
theorem lc_trace {E : EE} {p : Program} {l : Launch} {e : Env} {s : State} {m : MethodId} {args : Array Value} {below : List Frame} {meth : Method} {c : Code} {Q : State → Prop} {cells slots : Nat} (X : CX E p s m args meth c cL_law 4 ret RL) {b L i : Nat} {xs : Nat → Int32} (S : SC E.2.2.2.1 s b L xs) (hi : i + 7 ≤ L) (hf : cells ≤ room_1.cells ∧ slots ≤ room_1.slots) {I : II} (hI : INV I) {H : Heap} {locs : List Loc} {ls : Array Slot} (hp : PP E s H locs I) (hl : lv_has ls 4 [(3, .int (nI i)), (2, .ref (E.2.1 315)), (1, .ref (E.2.1 296)), (0, .ref b)]) (K : ∀ (J : II) (H1 : Heap) (locs1 : List Loc), INV J → PP E s H1 locs1 J → W p l e room_1 s m args below meth c H1 locs1 cells slots Q (F0 m 1378 ls [])) : W p l e room_1 s m args below meth c H locs cells slots Q (F0 m 1319 ls []) := by
  obtain ⟨⟨hx, hb, hml, hown, hts⟩, hr, hlk, hK, hST, hN⟩ := id X
  refine lv_aload_n hx hb dL_law_1319 rfl (lv_at hl 2 rfl) ?_
  refine lv_aload_n hx hb dL_law_1320 rfl (lv_at hl 3 rfl) ?_
  refine lv_iload_n hx hb dL_law_1321 rfl (lv_at hl 0 rfl) ?_
  refine lv_iconst (v := (nI 1)) hx hb dL_law_1322 (by decide) ?_
  refine lv_iadd hx hb dL_law_1323 ?_
  refine va_sld hx hb S.1 S.2.1 S.2.2.1 hp.2.2 (sc_in hi S.2.2.2 (by omega)) dL_law_1324 ?_
  refine ki2 (kV2 (As := [.int (xs (nI i + nI 1).toNatClampNeg)]) (rest := []) X hp (C_X7_trace (s_trace _ I hI)) tw_ml_L_173 vf_X7_trace ⟨rfl, rfl, Nat.le_of_ble_eq_true rfl, Nat.le_of_ble_eq_true rfl⟩ (pr_rcv X hp (k := 296) (by decide) (ob_296 _) (q := (RX7, TX7, 9)) rfl) rfl hl.1 rfl (Nat.le_of_ble_eq_true rfl) hf dL_law_1325) hp (fun r J H locs h hp => ?_)
  refine lv_aload_n hx hb dL_law_1328 rfl (lv_at hl 1 rfl) ?_
  refine lv_aload_n hx hb dL_law_1329 rfl (lv_at hl 3 rfl) ?_
  refine lv_iload_n hx hb dL_law_1330 rfl (lv_at hl 0 rfl) ?_
  refine lv_iconst (v := (nI 1)) hx hb dL_law_1331 (by decide) ?_
  refine lv_iadd hx hb dL_law_1332 ?_
  refine va_sld hx hb S.1 S.2.1 S.2.2.1 hp.2.2 (sc_in hi S.2.2.2 (by omega)) dL_law_1333 ?_
  refine ki2 (kV2 (As := [.int (xs (nI i + nI 1).toNatClampNeg)]) (rest := [.int r]) X hp (C_X8_trace h) tw_ml_L_176 vf_X8_trace ⟨rfl, rfl, Nat.le_of_ble_eq_true rfl, Nat.le_of_ble_eq_true rfl⟩ (pr_rcv X hp (k := 315) (by decide) (ob_315 _) (q := (RX8, TX8, 18)) rfl) rfl hl.1 rfl (Nat.le_of_ble_eq_true rfl) hf dL_law_1334) hp (fun r' J H locs h hp => ?_)
  refine lv_icmp_eq (tgt := 1378) hx hb dL_law_1337 (by decide) (fun _ => ?_) (fun q => absurd h.1 q)
  exact K _ _ _ h.2 hp
set_option maxHeartbeats 4000000 in
set_option maxRecDepth 100000 in
theorem lc_count {E : EE} {p : Program} {l : Launch} {e : Env} {s : State} {m : MethodId} {args : Array Value} {below : List Frame} {meth : Method} {c : Code} {Q : State → Prop} {cells slots : Nat} (X : CX E p s m args meth c cL_law 4 ret RL) {b L i : Nat} {xs : Nat → Int32} (S : SC E.2.2.2.1 s b L xs) (hi : i + 7 ≤ L) (hf : cells ≤ room_1.cells ∧ slots ≤ room_1.slots) {I : II} (hI : INV I) {H : Heap} {locs : List Loc} {ls : Array Slot} (hp : PP E s H locs I) (hl : lv_has ls 4 [(3, .int (nI i)), (2, .ref (E.2.1 315)), (1, .ref (E.2.1 296)), (0, .ref b)]) (K : ∀ (J : II) (H1 : Heap) (locs1 : List Loc), INV J → PP E s H1 locs1 J → W p l e room_1 s m args below meth c H1 locs1 cells slots Q (F0 m 1378 ls [])) : W p l e room_1 s m args below meth c H locs cells slots Q (F0 m 1342 ls []) := by
  obtain ⟨⟨hx, hb, hml, hown, hts⟩, hr, hlk, hK, hST, hN⟩ := id X
  refine lv_aload_n hx hb dL_law_1342 rfl (lv_at hl 2 rfl) ?_
  refine lv_aload_n hx hb dL_law_1343 rfl (lv_at hl 3 rfl) ?_
  refine lv_iload_n hx hb dL_law_1344 rfl (lv_at hl 0 rfl) ?_
  refine lv_iconst (v := (nI 1)) hx hb dL_law_1345 (by decide) ?_
  refine lv_iadd hx hb dL_law_1346 ?_
  refine va_sld hx hb S.1 S.2.1 S.2.2.1 hp.2.2 (sc_in hi S.2.2.2 (by omega)) dL_law_1347 ?_
  refine ki2 (kV2 (As := [.int (xs (nI i + nI 1).toNatClampNeg)]) (rest := []) X hp (C_X7_count (s_count _ I hI)) tw_ml_L_177 vf_X7_count ⟨rfl, rfl, Nat.le_of_ble_eq_true rfl, Nat.le_of_ble_eq_true rfl⟩ (pr_rcv X hp (k := 296) (by decide) (ob_296 _) (q := (RX7, TX7, 9)) rfl) rfl hl.1 rfl (Nat.le_of_ble_eq_true rfl) hf dL_law_1348) hp (fun r J H locs h hp => ?_)
  refine lv_aload_n hx hb dL_law_1351 rfl (lv_at hl 1 rfl) ?_
  refine lv_aload_n hx hb dL_law_1352 rfl (lv_at hl 3 rfl) ?_
  refine lv_iload_n hx hb dL_law_1353 rfl (lv_at hl 0 rfl) ?_
  refine lv_iconst (v := (nI 1)) hx hb dL_law_1354 (by decide) ?_
  refine lv_iadd hx hb dL_law_1355 ?_
  refine va_sld hx hb S.1 S.2.1 S.2.2.1 hp.2.2 (sc_in hi S.2.2.2 (by omega)) dL_law_1356 ?_
  refine ki2 (kV2 (As := [.int (xs (nI i + nI 1).toNatClampNeg)]) (rest := [.int r]) X hp (C_X8_count h) tw_ml_L_180 vf_X8_count ⟨rfl, rfl, Nat.le_of_ble_eq_true rfl, Nat.le_of_ble_eq_true rfl⟩ (pr_rcv X hp (k := 315) (by decide) (ob_315 _) (q := (RX8, TX8, 18)) rfl) rfl hl.1 rfl (Nat.le_of_ble_eq_true rfl) hf dL_law_1357) hp (fun r' J H locs h hp => ?_)
  refine lv_icmp_eq (tgt := 1378) hx hb dL_law_1360 (by decide) (fun _ => ?_) (fun q => absurd h.1 q)
  exact K _ _ _ h.2 hp
set_option maxHeartbeats 4000000 in
set_option maxRecDepth 100000 in
theorem lc_status {E : EE} {p : Program} {l : Launch} {e : Env} {s : State} {m : MethodId} {args : Array Value} {below : List Frame} {meth : Method} {c : Code} {Q : State → Prop} {cells slots : Nat} (X : CX E p s m args meth c cL_law 4 ret RL) {b L i : Nat} {xs : Nat → Int32} (S : SC E.2.2.2.1 s b L xs) (hi : i + 7 ≤ L) (hf : cells ≤ room_1.cells ∧ slots ≤ room_1.slots) {I : II} (hI : INV I) {H : Heap} {locs : List Loc} {ls : Array Slot} (hp : PP E s H locs I) (hl : lv_has ls 4 [(3, .int (nI i)), (2, .ref (E.2.1 315)), (1, .ref (E.2.1 296)), (0, .ref b)]) (K : ∀ (J : II) (H1 : Heap) (locs1 : List Loc), INV J → PP E s H1 locs1 J → W p l e room_1 s m args below meth c H1 locs1 cells slots Q (F0 m 1378 ls [])) : W p l e room_1 s m args below meth c H locs cells slots Q (F0 m 1365 ls []) := by
  obtain ⟨⟨hx, hb, hml, hown, hts⟩, hr, hlk, hK, hST, hN⟩ := id X
  refine lv_aload_n hx hb dL_law_1365 rfl (lv_at hl 2 rfl) ?_
  refine ki2 (kV2 (As := []) (rest := []) X hp (C_X7_status (s_status I hI)) tw_ml_L_181 vf_X7_status ⟨rfl, rfl, Nat.le_of_ble_eq_true rfl, Nat.le_of_ble_eq_true rfl⟩ (pr_rcv X hp (k := 296) (by decide) (ob_296 _) (q := (RX7, TX7, 9)) rfl) rfl hl.1 rfl (Nat.le_of_ble_eq_true rfl) hf dL_law_1366) hp (fun r J H locs h hp => ?_)
  refine lv_aload_n hx hb dL_law_1369 rfl (lv_at hl 1 rfl) ?_
  refine ki2 (kV2 (As := []) (rest := [.int r]) X hp (C_X8_status h) tw_ml_L_184 vf_X8_status ⟨rfl, rfl, Nat.le_of_ble_eq_true rfl, Nat.le_of_ble_eq_true rfl⟩ (pr_rcv X hp (k := 315) (by decide) (ob_315 _) (q := (RX8, TX8, 18)) rfl) rfl hl.1 rfl (Nat.le_of_ble_eq_true rfl) hf dL_law_1370) hp (fun r' J H locs h hp => ?_)
  refine lv_icmp_eq (tgt := 1378) hx hb dL_law_1373 (by decide) (fun _ => ?_) (fun q => absurd h.1 q)
  exact K _ _ _ h.2 hp

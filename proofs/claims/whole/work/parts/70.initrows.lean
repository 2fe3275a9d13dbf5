/-! ===== constructors: rows ===== -/
def zf : Nat → Int32 := fun _ => 0
def KX (D : va_G) (T : ClassId × ClassId × ClassId) (U : State) : Prop := va_K D vwCl [(T.1, .int), (T.2.1, .boolean), (T.2.2, .object RX1)] U ∧ va_AO RX1 U ∧ NW U
theorem KX.warm {D : va_G} {T : ClassId × ClassId × ClassId} {s U : State} (hW : s.WarmedH U.vm) (h : KX D T s) : KX D T U := ⟨va_K.moved hW.alike h.1, va_AO.moved hW.alike h.2.1, NW.warm hW h.2.2⟩
def IP (D : va_G) (T : ClassId × ClassId × ClassId) (h0 : Nat) (e0 : va_E) (sz : Nat) (U : State) : Prop := U.heap.size = sz ∧ va_P D vwCl [(h0, e0)] U.heap ∧ KX D T U
theorem IP.blind {D : va_G} {T : ClassId × ClassId × ClassId} {h0 : Nat} {e0 : va_E} {sz : Nat} {av : List Value} : FrameBlind (va_Pc av (IP D T h0 e0 sz)) := by
  intro a U g mk q
  obtain ⟨q0, q1, qP, qK, qA, qN⟩ := q
  exact ⟨q0, q1, qP, va_K.moved (u := U) (U := U.calling g mk a) (Vm.Alike.refl U.vm) qK, va_AO.moved (u := U) (U := U.calling g mk a) (Vm.Alike.refl U.vm) qA, NW.same (u := U) (U := U.calling g mk a) rfl qN⟩
def IB (D : va_G) (A : Nat → Prop) (w : va_W) (t : State) : Prop := va_P D vwCl w t.heap ∧ va_D A w
def IM (l : Launch) (y : MethodName) (bytes : ByteArray) (maxL : Nat) (rm : Room) (D : va_G) (T : ClassId × ClassId × ClassId) (h0 : Nat) (e0 : va_E) (sz : Nat) (post : va_W → Prop) (mc ms : Nat) : Prop :=
  Met l y (Cond.code y bytes maxL none :: lwT) rm (va_Pc [.ref h0] (IP D T h0 e0 sz)) (va_Qv post (IB D (va_A [(h0, e0)] sz)) (va_A [(h0, e0)] sz)) mc ms (va_A [(h0, e0)] sz)
def CK (D : va_G) (T : ClassId × ClassId × ClassId) (p : Program) (s : State) (m : MethodId) (args : Array Value) (c : Code) (cc : ByteArray) (nL : Nat) (own : String) : Prop := CallFix p m c cc nL s args lwT own ∧ KX D T s
def CI (D : va_G) (T : ClassId × ClassId × ClassId) (p : Program) (s : State) (m : MethodId) (args : Array Value) (meth : Method) (c : Code) (cc : ByteArray) (nL : Nat) (own : String) : Prop := CK D T p s m args c cc nL own ∧ meth.sig.returnType = none ∧ meth.locks = false ∧ meth.name = "<init>"
def WW (D : va_G) (A : Nat → Prop) (s : State) (H : Heap) (locs : List Loc) (ws : va_W) : Prop := va_P D vwCl ws H ∧ va_D A ws ∧ va_S A s.heap H locs ∧ ∀ q, s.heap.size ≤ q → A q
def IF (y : MethodName) (bytes : ByteArray) (maxL : Nat) : Prop := Cond.initialized y.cls ∈ lwT ∧ Cond.instanceMethod y ∈ lwT ∧ Cond.code y bytes maxL none ∈ lwT ∧ y.name = "<init>" ∧ y.cls ≠ "java/lang/invoke/MethodHandle" ∧ y.cls ≠ "java/lang/invoke/VarHandle" ∧ (parseMethodDescriptor y.desc).map (fun d => d.parameters.length) = some 0
def IR (rm R : Room) (maxL mc ms : Nat) : Prop := rm.cells = mc ∧ rm.slots = ms ∧ rm.frames + 1 ≤ R.frames ∧ 8 + (maxL + 11) + rm.locals ≤ R.locals
theorem one_D {x : Nat × va_E} {sz : Nat} : va_D (va_A [x] sz) [x] := by
  refine ⟨fun i j a b ha hb _ => ?_, fun k q hk => va_A.in hk⟩
  have h1 : i < 1 := (List.getElem?_eq_some_iff.mp ha).1
  have h2 : j < 1 := (List.getElem?_eq_some_iff.mp hb).1
  omega
theorem lastP {D : va_G} {wr : va_W} {x : Nat × va_E} {H : Heap} (h : va_P D vwCl (wr ++ [x]) H) : va_P D vwCl [x] H := by
  intro k q hk
  have h1 : k < 1 := (List.getElem?_eq_some_iff.mp hk).1
  have e : k = 0 := by omega
  subst e
  have hx : x = q := by simpa using hk
  subst hx
  exact h wr.length x (by simp)
section INIT
variable {D : va_G} {T : ClassId × ClassId × ClassId} {A : Nat → Prop} {ws wr : va_W} {p : Program} {l : Launch} {e : Env} {R : Room} {s : State} {m : MethodId} {args : Array Value} {below : List Frame} {meth : Method} {c : Code} {H : Heap} {locs : List Loc} {cells slots : Nat} {Q : State → Prop}
variable {cc : ByteArray} {pc nL : Nat} {ls : Array Slot} {rest st0 : List Value} {own : String}
theorem jn {A0 : Nat → Prop} {x : Nat × va_E} {w1 : va_W} {H1 : Heap} (hP : va_P D vwCl (wr ++ [x]) H) (hD : va_D A0 (wr ++ [x])) (hk : ∀ q : Nat, q < H.size → ¬ va_A [x] H.size q → H1[q]? = H[q]?) (hF : ∀ q, va_A [x] H.size q → A0 q) (hP1 : va_P D vwCl w1 H1) (hD1 : va_D (va_A [x] H.size) w1) : va_P D vwCl (wr ++ w1) H1 ∧ va_D A0 (wr ++ w1) := by
  have at' : ∀ (k : Nat) (q : Nat × va_E), wr[k]? = some q → (wr ++ [x])[k]? = some q ∧ k < wr.length := fun k q h => by
    have hl := (List.getElem?_eq_some_iff.mp h).1
    exact ⟨by rw [List.getElem?_append_left hl]; exact h, hl⟩
  have last : (wr ++ [x])[wr.length]? = some x := by simp
  have apart : ∀ (k : Nat) (q : Nat × va_E), wr[k]? = some q → q.1 < H.size ∧ ¬ va_A [x] H.size q.1 := by
    intro k q hq
    obtain ⟨h1, h2⟩ := at' k q hq
    have hl := (hP k q h1).lt
    refine ⟨hl, fun h => ?_⟩
    rcases h with ⟨k2, e, h⟩ | h
    · have hk2 : k2 < 1 := (List.getElem?_eq_some_iff.mp h).1
      have e0 : k2 = 0 := by omega
      subst e0
      have hx : x = (q.1, e) := by simpa using h
      have := hD.1 k wr.length q x h1 last (by rw [hx])
      omega
    · omega
  refine ⟨va_P.app (fun k q hq => ?_) hP1, va_D.app ⟨fun i j a b ha hb hab => hD.1 i j a b (at' i a ha).1 (at' j b hb).1 hab, fun k q hq => hD.2 k q (at' k q hq).1⟩ (hD1.weaken (fun k q _ h => hF q.1 h)) (fun i j a b ha hb hab => ?_)⟩
  · obtain ⟨g1, g2⟩ := apart k q hq
    exact (hP k q (at' k q hq).1).kept (hk q.1 g1 g2)
  · exact (apart i a ha).2 (by rw [hab]; exact hD1.2 j b hb)
theorem nw_i (X : CK D T p s m args c cc nL own) (w : WW D A s H locs ws) {n : Int32} {N : Nat} (hn : ¬ n < 0) (hN : n.toNatClampNeg = N) (hbt : N * 4 ≤ 536870912) (hc : cells + 1 ≤ R.cells) (hs : slots + N ≤ R.slots) (hdg : decode cc pc = .ok (.newarray .int, 2))
    (kk : ∀ (q : Nat) (H1 : Heap), WW D A s H1 locs (ws ++ [(q, .inl (T.1, N, .inl zf))]) → W p l e R s m args below meth c H1 locs (cells + 1) (slots + N) Q (F0 m (pc + 2) ls (.ref q :: rest))) : W p l e R s m args below meth c H locs cells slots Q (F0 m pc ls (.int n :: rest)) := by
  refine va_newa (atype := .int) (a0 := (N, .inl zf)) X.1.1 X.1.2.1 (X.1.2.2.2.2 _ tw_ac_int) (ty := .int) rfl X.2.1 w.1 w.2.1 w.2.2.1 w.2.2.2 (fun _ => rfl) hn hN hbt hc hs hdg (fun q cA H1 hK hP hD hS => ?_)
  have e1 : s.vm.findClass ("[" ++ FieldType.int.toString) = some cA := (hK.2 3 (cA, .int) rfl).2
  have e2 : s.vm.findClass ("[" ++ FieldType.int.toString) = some T.1 := (X.2.1.2 0 (T.1, .int) rfl).2
  have e3 : cA = T.1 := Option.some.inj (e1.symm.trans e2)
  rw [e3] at hP hD
  exact kk q H1 ⟨hP, hD, hS, w.2.2.2⟩
theorem nw_z (X : CK D T p s m args c cc nL own) (w : WW D A s H locs ws) {n : Int32} {N : Nat} (hn : ¬ n < 0) (hN : n.toNatClampNeg = N) (hbt : N * 1 ≤ 536870912) (hc : cells + 1 ≤ R.cells) (hs : slots + N ≤ R.slots) (hdg : decode cc pc = .ok (.newarray .boolean, 2))
    (kk : ∀ (q : Nat) (H1 : Heap), WW D A s H1 locs (ws ++ [(q, .inl (T.2.1, N, .inl zf))]) → W p l e R s m args below meth c H1 locs (cells + 1) (slots + N) Q (F0 m (pc + 2) ls (.ref q :: rest))) : W p l e R s m args below meth c H locs cells slots Q (F0 m pc ls (.int n :: rest)) := by
  refine va_newa (atype := .boolean) (a0 := (N, .inl zf)) X.1.1 X.1.2.1 (X.1.2.2.2.2 _ tw_ac_boolean) (ty := .boolean) rfl X.2.1 w.1 w.2.1 w.2.2.1 w.2.2.2 (fun _ => rfl) hn hN hbt hc hs hdg (fun q cA H1 hK hP hD hS => ?_)
  have e1 : s.vm.findClass ("[" ++ FieldType.boolean.toString) = some cA := (hK.2 3 (cA, .boolean) rfl).2
  have e2 : s.vm.findClass ("[" ++ FieldType.boolean.toString) = some T.2.1 := (X.2.1.2 1 (T.2.1, .boolean) rfl).2
  have e3 : cA = T.2.1 := Option.some.inj (e1.symm.trans e2)
  rw [e3] at hP hD
  exact kk q H1 ⟨hP, hD, hS, w.2.2.2⟩
theorem nw_q (X : CK D T p s m args c cc nL own) (w : WW D A s H locs ws) {n : Int32} {N index : Nat} (hcl : Cond.classLink own index RX1 ∈ lwT) (hn : ¬ n < 0) (hN : n.toNatClampNeg = N) (hbt : N * 4 ≤ 536870912) (hc : cells + 1 ≤ R.cells) (hs : slots + N ≤ R.slots) (hdg : decode cc pc = .ok (.anewarray index, 3))
    (kk : ∀ (q : Nat) (H1 : Heap), WW D A s H1 locs (ws ++ [(q, .inl (T.2.2, N, .inr (.inr (.inr (.inr (fun _ => none))))))]) → W p l e R s m args below meth c H1 locs (cells + 1) (slots + N) Q (F0 m (pc + 3) ls (.ref q :: rest))) : W p l e R s m args below meth c H locs cells slots Q (F0 m pc ls (.int n :: rest)) := by
  refine va_newq X.1.1 X.1.2.1 X.1.2.2.2.1 (X.1.2.2.2.2 _ hcl) X.2.2.1 X.2.1 w.1 w.2.1 w.2.2.1 w.2.2.2 hn hN hbt hc hs hdg (fun q cA H1 hK hP hD hS => ?_)
  obtain ⟨-, kA, comp, -, -, -, e1⟩ := hK.2 3 (cA, .object RX1) rfl
  obtain ⟨-, kB, comp2, -, -, -, e2⟩ := X.2.1.2 2 (T.2.2, .object RX1) rfl
  have e3 : cA = T.2.2 := Option.some.inj (e1.symm.trans e2)
  rw [e3] at hP hD
  exact kk q H1 ⟨hP, hD, hS, w.2.2.2⟩
theorem nw_o (X : CK D T p s m args c cc nL own) (w : WW D A s H locs ws) {C : String} {T0 : u_T} {N ci index : Nat} {fs : List Value} (hin : ∀ w ∈ u_ws C T0 N, w ∈ lwT) (ty : Nat → FieldType) (hty : ∀ k, k < N → parseFieldDescriptor (T0 k).2.2.1 = some (ty k)) (hcl : Cond.classLink own index C ∈ lwT) (hib : Cond.instantiable C N ∈ lwT) (hini : Cond.initialized C ∈ lwT) (hc : vwCl[ci]? = some (C, T0, N)) (hfs : ∀ j, j < N → defaultValue (ty j) = vp_V fs j) (hc1 : cells + 1 ≤ R.cells) (hs : slots + N ≤ R.slots) (hdg : decode cc pc = .ok (.new index, 3))
    (kk : ∀ (q : Nat) (H1 : Heap), WW D A s H1 locs (ws ++ [(q, .inr (ci, fs))]) → W p l e R s m args below meth c H1 locs (cells + 1) (slots + N) Q (F0 m (pc + 3) ls (.ref q :: rest))) : W p l e R s m args below meth c H locs cells slots Q (F0 m pc ls rest) :=
  va_new X.1.1 X.1.2.1 X.1.2.2.2.2 hin ty hty X.1.2.2.2.1 (X.1.2.2.2.2 _ hcl) (X.1.2.2.2.2 _ hib) (X.1.2.2.2.2 _ hini) X.2.1 w.1 w.2.1 w.2.2.1 w.2.2.2 hc hfs hc1 hs hdg (fun q H1 hP hD hS => kk q H1 ⟨hP, hD, hS, w.2.2.2⟩)
theorem pf (X : CI D T p s m args meth c cc nL own) {h0 ci : Nat} {fs : List Value} (w : WW D A s H locs ((h0, .inr (ci, fs)) :: wr)) {T0 : u_T} {N slot index : Nat} {ty : FieldType} {v : Value} (hc : vwCl[ci]? = some (own, T0, N)) (hin : ∀ w ∈ u_ws own T0 N, w ∈ lwT) (ty0 : Nat → FieldType) (hty : ∀ k, k < N → parseFieldDescriptor (T0 k).2.2.1 = some (ty0 k)) (hnm : ∀ a, a < N → ∀ b, b < N → a ≠ b → (T0 a).2.1 ≠ (T0 b).2.1) (hs : slot < N) (hl : Cond.fieldLink own index (T0 slot).1 (T0 slot).2.1 (T0 slot).2.2.1 ∈ lwT) (hfin : (T0 slot).2.2.2 = true) (hdecl : (T0 slot).1 = own) (hd : parseFieldDescriptor (T0 slot).2.2.1 = some ty) (hn : narrow ty v = v) (hfit : fits ty v = true) (hlen : slot < fs.length) (hdg : decode cc pc = .ok (.putfield index, 3))
    (kk : ∀ (H1 : Heap) (locs1 : List Loc), WW D A s H1 locs1 ((h0, .inr (ci, fs.set slot v)) :: wr) → W p l e R s m args below meth c H1 locs1 cells slots Q (F0 m (pc + 3) ls rest)) : W p l e R s m args below meth c H locs cells slots Q (F0 m pc ls (v :: .ref h0 :: rest)) :=
  va_putF (D := D) X.1.1.1 X.1.1.2.1 X.1.1.2.2.2.2 hin ty0 hty hnm X.1.1.2.2.2.1 X.1.2.1 w.1 w.2.1 w.2.2.1 0 rfl hc slot hs (X.1.1.2.2.2.2 _ hl) (fun _ h => h) hfin X.2.2.2 hdecl hd hn hfit hlen hdg (fun H1 locs1 hP hD hS => kk H1 locs1 ⟨hP, hD, hS, w.2.2.2⟩)
theorem gf (X : CK D T p s m args c cc nL own) {h0 ci : Nat} {fs : List Value} (w : WW D A s H locs ((h0, .inr (ci, fs)) :: wr)) {T0 : u_T} {N slot index : Nat} {v : Value} (hc : vwCl[ci]? = some (own, T0, N)) (hin : ∀ w ∈ u_ws own T0 N, w ∈ lwT) (hs : slot < N) (hl : Cond.fieldLink own index (T0 slot).1 (T0 slot).2.1 (T0 slot).2.2.1 ∈ lwT) (hv : fs[slot]? = some v) (hdg : decode cc pc = .ok (.getfield index, 3))
    (kk : W p l e R s m args below meth c H locs cells slots Q (F0 m (pc + 3) ls (v :: rest))) : W p l e R s m args below meth c H locs cells slots Q (F0 m pc ls (.ref h0 :: rest)) :=
  va_get (D := D) (ci := ci) (v := v) (C := own) (T := T0) (N := N) X.1.1 X.1.2.1 X.1.2.2.2.2 hin X.1.2.2.2.1 X.2.1 w.1 0 rfl hc slot hs (X.1.2.2.2.2 _ hl) (fun _ h => h) hv hdg kk
theorem sa (X : CK D T p s m args c cc nL own) (w : WW D A s H locs ws) (k : Nat) {a n : Nat} {f : Nat → Int32} {i x : Int32} (hk : ws[k]? = some (a, .inl (T.1, n, .inl f))) (hin : vp_in i n) (hdg : decode cc pc = .ok (.iastore, 1))
    (kk : ∀ (H1 : Heap) (locs1 : List Loc), WW D A s H1 locs1 (ws.set k (a, .inl (T.1, n, .inl (upd f i.toNatClampNeg x)))) → W p l e R s m args below meth c H1 locs1 cells slots Q (F0 m (pc + 1) ls rest)) : W p l e R s m args below meth c H locs cells slots Q (F0 m pc ls (.int x :: .int i :: .ref a :: rest)) :=
  va_iast X.1.1 X.1.2.1 X.2.1 w.1 w.2.1 w.2.2.1 k 0 hk rfl hin hdg (fun H1 locs1 hP hD hS => kk H1 locs1 ⟨hP, hD, hS, w.2.2.2⟩)
theorem sq {pre post : va_W} {a n v : Nat} {f : Nat → Option Nat} {vs : List Value} {i : Int32} (X : CK D T p s m args c cc nL own) (w : WW D A s H locs (pre ++ (a, .inl (T.2.2, n, .inr (.inr (.inr (.inr f))))) :: post)) (hv : (v, .inr (1, vs)) ∈ post) (hin : vp_in i n) (hdg : decode cc pc = .ok (.aastore, 1))
    (kk : ∀ (H1 : Heap) (locs1 : List Loc), WW D A s H1 locs1 (pre ++ (a, .inl (T.2.2, n, .inr (.inr (.inr (.inr (va_up f i.toNatClampNeg (some v))))))) :: post) → W p l e R s m args below meth c H1 locs1 cells slots Q (F0 m (pc + 1) ls rest)) : W p l e R s m args below meth c H locs cells slots Q (F0 m pc ls (.ref v :: .int i :: .ref a :: rest)) := by
  have ha : (pre ++ (a, .inl (T.2.2, n, .inr (.inr (.inr (.inr f))))) :: post : va_W)[pre.length]? = some (a, .inl (T.2.2, n, .inr (.inr (.inr (.inr f))))) := by simp
  obtain ⟨qk, hqk⟩ : ∃ qk : Nat, (pre ++ (a, .inl (T.2.2, n, .inr (.inr (.inr (.inr f))))) :: post : va_W)[qk]? = some (v, .inr (1, vs)) := List.getElem?_of_mem (List.mem_append_right _ (List.mem_cons_of_mem _ hv))
  refine va_astq (r := (RX1, TX1, 17)) X.1.1 X.1.2.1 X.2.1 w.1 w.2.1 w.2.2.1 pre.length 2 qk 1 ha rfl hqk rfl hin hdg (fun H1 locs1 hP hD hS => ?_)
  have hs : ∀ y : Nat × va_E, (pre ++ (a, .inl (T.2.2, n, .inr (.inr (.inr (.inr f))))) :: post : va_W).set pre.length y = pre ++ y :: post := fun y => by simp
  rw [hs] at hP hD
  exact kk H1 locs1 ⟨hP, hD, hS, w.2.2.2⟩
theorem oi (X : CK D T p s m args c cc nL own) {a index : Nat} (hl : Cond.methodLink own index objectInit ∈ lwT) (hls : ls.size = nL) (hR : 1 ≤ R.frames ∧ 12 ≤ R.locals) (hdg : decode cc pc = .ok (.invokespecial index, 3))
    (kk : W p l e R s m args below meth c H locs cells slots Q (F0 m (pc + 3) ls [])) : W p l e R s m args below meth c H locs cells slots Q (F0 m pc ls [.ref a]) := by
  refine W.objInit X.1.1 X.1.2.1 X.1.2.2.2.1 (X.1.2.2.2.2 _ hl) (X.1.2.2.2.2 _ tw_im_objectInit) (X.1.2.2.2.2 _ tw_c_objinit) rfl (by rw [X.1.2.2.1]; exact hls) rfl hdg hR.1 ?_ ?_
  · show 2 * 0 + 0 + 12 ≤ R.locals
    omega
  · exact W.eq (g2 := F0 m (pc + 3) ls []) rfl kk
variable {y : MethodName} {bytes : ByteArray} {maxL index q mc ms : Nat} {rm : Room} {e0 : va_E} {post : va_W → Prop} {av : Array Value}
theorem kI_go (w : WW D A s H locs (wr ++ [(q, e0)])) (hr : va_Run p l e R s m args below meth c H locs cells slots mc ms (F0 m pc ls st0) rest (va_Qv post (IB D (va_A [(q, e0)] H.size)) (va_A [(q, e0)] H.size) av) (va_A [(q, e0)] H.size))
    (kk : ∀ (w1 : va_W) (H1 : Heap) (locs1 : List Loc), post w1 → WW D A s H1 locs1 (wr ++ w1) → W p l e R s m args below meth c H1 locs1 (cells + mc) (slots + ms) Q (F0 m (pc + 3) ls rest)) : W p l e R s m args below meth c H locs cells slots Q (F0 m pc ls st0) := by
  have hF : ∀ z, va_A [(q, e0)] H.size z → A z := fun z h => by
    rcases h with ⟨k, e, h⟩ | h
    · have hk : k < 1 := (List.getElem?_eq_some_iff.mp h).1
      have e1 : k = 0 := by omega
      subst e1
      have hx : (q, e0) = (z, e) := by simpa using h
      have := w.2.1.2 wr.length (q, e0) (by simp)
      rw [hx] at this; exact this
    · exact w.2.2.2 z (Nat.le_trans w.2.2.1.1 h)
  refine va_callv hr w.2.2.1 (fun z _ h => hF z h) hF (fun w1 t H1 locs1 ht hvm hp hB hz1 hk1 hS => ?_)
  obtain ⟨hP1, hD1⟩ := hB
  rw [ht] at hP1
  obtain ⟨a1, a2⟩ := jn w.1 w.2.1 hk1 hF hP1 hD1
  exact kk w1 H1 locs1 hp ⟨a1, a2, hS, w.2.2.2⟩
theorem kI (X : CK D T p s m args c cc nL own) (w : WW D A s H locs (wr ++ [(q, e0)])) (M : IM l y bytes maxL rm D T q e0 H.size post mc ms) (hl : Cond.methodLink own index y ∈ lwT) (F : IF y bytes maxL) (hR : IR rm R maxL mc ms) (hls : ls.size = nL) (hw : (rest.map fun v => v.category).sum ≤ 8) (hf : cells + mc ≤ R.cells ∧ slots + ms ≤ R.slots) (hdg : decode cc pc = .ok (.invokespecial index, 3))
    (kk : ∀ (w1 : va_W) (H1 : Heap) (locs1 : List Loc), post w1 → WW D A s H1 locs1 (wr ++ w1) → W p l e R s m args below meth c H1 locs1 (cells + mc) (slots + ms) Q (F0 m (pc + 3) ls rest)) : W p l e R s m args below meth c H locs cells slots Q (F0 m pc ls (.ref q :: rest)) :=
  kI_go w (va_runI (As := []) (rest := rest) X.1 M ⟨callB_of 0 X.1.2.2.2.2 (gT F.2.2.1) rfl hR.1 hR.2.1 (X.1.2.2.2.2 _ F.1) (X.1.2.2.2.2 _ hl) F.2.2.2.2 hR.2.2, F.2.2.2.1, X.1.2.2.2.2 _ F.2.1⟩ ⟨IP.blind, fun U hU hW => ⟨rfl, by rw [hU], by rw [hU]; exact lastP w.1, X.2.warm hW⟩⟩ rfl rfl hls rfl (lv_room hw) hdg hf) kk
theorem kIN {host : String} (X : CK D T p s m args c cc nL own) (w : WW D A s H locs (wr ++ [(q, e0)])) (M : IM l y bytes maxL rm D T q e0 H.size post mc ms) (hl : (own, index, y, host) ∈ nM) (F : IF y bytes maxL) (hR : IR rm R maxL mc ms) (hls : ls.size = nL) (hw : (rest.map fun v => v.category).sum ≤ 8) (hf : cells + mc ≤ R.cells ∧ slots + ms ≤ R.slots) (hdg : decode cc pc = .ok (.invokespecial index, 3))
    (kk : ∀ (w1 : va_W) (H1 : Heap) (locs1 : List Loc), post w1 → WW D A s H1 locs1 (wr ++ w1) → W p l e R s m args below meth c H1 locs1 (cells + mc) (slots + ms) Q (F0 m (pc + 3) ls rest)) : W p l e R s m args below meth c H locs cells slots Q (F0 m pc ls (.ref q :: rest)) :=
  kI_go w (va_runIN (As := []) (rest := rest) X.1 M ⟨va_cnB 0 X.1.2.2.2.2 (gT F.2.2.1) rfl hR.1 hR.2.1 (X.2.2.2.2 _ hl) (X.1.2.2.2.2 _ F.1) F.2.2.2.2 hR.2.2, F.2.2.2.1, X.1.2.2.2.2 _ F.2.1⟩ ⟨IP.blind, fun U hU hW => ⟨rfl, by rw [hU], by rw [hU]; exact lastP w.1, X.2.warm hW⟩⟩ rfl rfl hls rfl (lv_room hw) hdg hf) kk
theorem rt_I (X : CI D T p s m args meth c cc nL own) (w : WW D A s H locs ws) (hp : post ws) (hdg : decode cc pc = .ok (.return_, 1)) : W p l e R s m args below meth c H locs mc ms (MQ below (va_Qv post (IB D A) A) args s mc ms A) (F0 m pc ls []) :=
  W.vret X.1.1.1 X.1.1.2.1 X.2.1 (fun t ht hW => ⟨⟨ws, rfl, hp, by rw [ht]; exact w.1, w.2.1⟩, w.2.2.1.F ht⟩) w.2.2.1.2.2 hdg X.2.2.1
theorem ofWalkI {h0 sz : Nat} (hy : plainName y.cls = true) (hname : y.name = "<init>") (hav : (lg_sl [Value.ref h0]).length ≤ maxL)
    (body : ∀ (p : Program) (e : Env) (s : State) (m : MethodId) (below : List Frame) (meth : Method) (c : Code) (ls : Array Slot) (A : Nat → Prop), CI D T p s m #[.ref h0] meth c bytes maxL y.cls → WW D A s s.heap [] [(h0, e0)] → lv_has ls maxL [(0, .ref h0)] → W p l e rm s m #[.ref h0] below meth c s.heap [] 0 0 (MQ below (va_Qv post (IB D A) A) #[.ref h0] s mc ms A) (F0 m 0 ls [])) :
    IM l y bytes maxL rm D T h0 e0 sz post mc ms := by
  refine Met.ofW (cc := bytes) (maxL := maxL) (ret := none) hy rfl ?_
  intro p e s m args below meth c s₁ B hml hv
  obtain ⟨rfl, hsz, hP, hK⟩ := hv
  subst hsz
  have hts := atoms_spec (ws := Cond.code y bytes maxL none :: lwT) B.pre
  have hin : meth.name = y.name := (name_of_methodNamed B.named B.method).1
  have X : CI D T p s m #[.ref h0] meth c bytes maxL y.cls := ⟨⟨⟨B.exec, B.bytes, hml, findClass_of_methodNamed B.named, fun w hw => hts w (List.mem_cons_of_mem _ hw)⟩, hK⟩, B.returns, B.notSynchronized, hin.trans hname⟩
  have hl := lv_entry [Value.ref h0] (n := maxL) hav
  show W p l e _ s m [Value.ref h0].toArray below meth c s.heap [] 0 0 _ _
  rw [lg_entry_eq]
  exact body p e s m below meth c _ _ X ⟨hP, one_D, va_S.rf, fun q h => Or.inr h⟩ hl
end INIT

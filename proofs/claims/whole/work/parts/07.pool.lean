/-! ===== the pool: all cells of the class's object and of the reference's, by their numbers; what changes are ints alone ===== -/
abbrev II : Type := Nat → Nat → Int32
abbrev EE : Type := va_G × (Nat → Nat) × (ClassId × ClassId × ClassId) × (Nat → Prop) × (Nat × Nat × Nat)
/-- one number of one cell becomes another -/
def su (I : II) (a k : Nat) (v : Int32) : II := va_up I a (upd (I a) k v)
def isb (r : Int32) : Prop := r = 0 ∨ r = 1
def bankFs (E : EE) (k : Nat) (f : Nat → Int32) : List Value := [.int (f 0), .int (f 1), .int (f 2), .int (f 3), .int (f 4), .int (f 5), .int (f 6), .int (f 7), .int (f 8), .int (f 9), .ref (E.2.1 (k + 1)), .ref (E.2.1 (k + 2)), .ref (E.2.1 (k + 3)), .ref (E.2.1 (k + 4)), .ref (E.2.1 (k + 5)), .ref (E.2.1 (k + 6)), .ref (E.2.1 (k + 7))]
def lenX (k : Nat) : Nat := if k = 298 then 8 else if k = 299 then 8 else if k = 300 then 320 else if k = 302 then 120 else if k = 307 then 12 else if k = 310 then 7 else if k = 311 then 7 else if k = 312 then 7 else if k = 314 then 16 else if k = 316 then 1372 else if k = 318 then 8 else if k = 319 then 8 else if k = 320 then 320 else if k = 321 then 120 else if k = 322 then 16 else 7
def cellX (E : EE) (k : Nat) (f : Nat → Int32) : va_E :=
  if k = 296 then .inr (7, [.ref (E.2.1 297), .ref (E.2.1 301), .ref (E.2.1 (8 * 0)), .ref (E.2.1 303), .ref (E.2.1 305), .ref (E.2.1 306), .ref (E.2.1 308), .ref (E.2.1 313), .int (f 8)])
  else if k = 297 then .inr (4, [.ref (E.2.1 298), .ref (E.2.1 299), .ref (E.2.1 300)])
  else if k = 301 then .inr (6, [.ref (E.2.1 302), .ref (E.2.1 (8 * 1)), .int (f 2), .int (f 3), .int (f 4), .int (f 5)])
  else if k = 303 then .inr (3, [.ref (E.2.1 304), .int (f 1), .int (f 2)])
  else if k = 304 then .inl (E.2.2.1.2.2, 24, .inr (.inr (.inr (.inr (fun i => some (E.2.1 (8 * (5 + i))))))))
  else if k = 305 then .inl (E.2.2.1.2.2, 2, .inr (.inr (.inr (.inr (fun i => some (E.2.1 (8 * (3 + i))))))))
  else if k = 306 then .inr (2, [.ref (E.2.1 (8 * 2)), .ref (E.2.1 307), .int (f 2), .int (f 3)])
  else if k = 308 then .inr (5, [.ref (E.2.1 309), .ref (E.2.1 310), .ref (E.2.1 311), .ref (E.2.1 312), .int (f 4), .int (f 5), .int (f 6), .int (f 7), .int (f 8), .int (f 9), .int (f 10)])
  else if k = 309 then .inl (E.2.2.1.2.2, 8, .inr (.inr (.inr (.inr (fun i => some (E.2.1 (8 * (29 + i))))))))
  else if k = 313 then .inr (0, [.ref (E.2.1 314), .int (f 1)])
  else if k = 315 then .inr (8, [.ref (E.2.1 316), .int (f 1), .int (f 2), .ref (E.2.1 317), .ref (E.2.1 318), .ref (E.2.1 319), .ref (E.2.1 320), .ref (E.2.1 321), .int (f 8), .int (f 9), .int (f 10), .ref (E.2.1 322), .int (f 12), .int (f 13), .int (f 14), .int (f 15), .ref (E.2.1 323), .ref (E.2.1 324)])
  else if k = 317 then .inl (E.2.2.1.2.1, 2, .inl f)
  else .inl (E.2.2.1.1, lenX k, .inl f)
def cellOf (E : EE) (k : Nat) (f : Nat → Int32) : va_E := if k < 296 then (if k % 8 = 0 then .inr (1, bankFs E k f) else .inl (E.2.2.1.1, (if k % 8 < 6 then 4 else 7), .inl f)) else cellX E k f
def pool (E : EE) (I : II) : va_W := (List.range 325).map (fun k => (E.2.1 k, cellOf E k (I k)))
theorem pool_at {E : EE} {I : II} {k : Nat} (h : k < 325) : (pool E I)[k]? = some (E.2.1 k, cellOf E k (I k)) := by
  simp [pool, List.getElem?_map, List.getElem?_range h]
theorem pool_of {E : EE} {I : II} {k : Nat} {q : Nat × va_E} (h : (pool E I)[k]? = some q) : k < 325 ∧ q = (E.2.1 k, cellOf E k (I k)) := by
  have hk : k < 325 := by
    have := (List.getElem?_eq_some_iff.mp h).1
    simpa [pool] using this
  rw [pool_at hk] at h
  exact ⟨hk, (Option.some.inj h).symm⟩
theorem pool_up {E : EE} {I : II} {k : Nat} (h : k < 325) (g : Nat → Int32) : (pool E I).set k (E.2.1 k, cellOf E k g) = pool E (va_up I k g) := by
  apply List.ext_getElem?
  intro i
  by_cases hi : i = k
  · subst hi
    rw [List.getElem?_set_self (by simpa [pool] using h), pool_at h]
    simp [va_up]
  · rw [List.getElem?_set_ne (fun e => hi e.symm)]
    by_cases h2 : i < 325
    · rw [pool_at h2, pool_at h2]
      simp [va_up, hi]
    · rw [List.getElem?_eq_none (by simp [pool]; omega), List.getElem?_eq_none (by simp [pool]; omega)]
theorem pool_D {E : EE} {I : II} {A : Nat → Prop} (h : va_D A (pool E I)) (J : II) : va_D A (pool E J) := by
  refine ⟨fun i j x y hx hy hxy => ?_, fun k q hk => ?_⟩
  · obtain ⟨h1, e1⟩ := pool_of hx
    obtain ⟨h2, e2⟩ := pool_of hy
    refine h.1 i j _ _ (pool_at h1) (pool_at h2) ?_
    rw [e1, e2] at hxy
    exact hxy
  · obtain ⟨h1, e1⟩ := pool_of hk
    rw [e1]
    exact h.2 k (E.2.1 k, cellOf E k (I k)) (pool_at h1)
/-- cell k is an array of n ints -/
def AR (E : EE) (k n : Nat) : Prop := k < 325 ∧ ∀ f : Nat → Int32, cellOf E k f = .inl (E.2.2.1.1, n, .inl f)
theorem ar_b {E : EE} {j : Nat} (i : Nat) (hj : j < 37) (h0 : 0 < i) (h8 : i < 8) : AR E (8 * j + i) (if i < 6 then 4 else 7) := by
  refine ⟨by omega, fun f => ?_⟩
  have h1 : 8 * j + i < 296 := by omega
  have h2 : (8 * j + i) % 8 = i := by omega
  simp only [cellOf, if_pos h1, h2]
  rw [if_neg (by omega)]
theorem ar_1 {E : EE} {j : Nat} (hj : j < 37) : AR E (8 * j + 1) 4 := ar_b 1 hj (by decide) (by decide)
theorem ar_2 {E : EE} {j : Nat} (hj : j < 37) : AR E (8 * j + 2) 4 := ar_b 2 hj (by decide) (by decide)
theorem ar_3 {E : EE} {j : Nat} (hj : j < 37) : AR E (8 * j + 3) 4 := ar_b 3 hj (by decide) (by decide)
theorem ar_4 {E : EE} {j : Nat} (hj : j < 37) : AR E (8 * j + 4) 4 := ar_b 4 hj (by decide) (by decide)
theorem ar_5 {E : EE} {j : Nat} (hj : j < 37) : AR E (8 * j + 5) 4 := ar_b 5 hj (by decide) (by decide)
theorem ar_6 {E : EE} {j : Nat} (hj : j < 37) : AR E (8 * j + 6) 7 := ar_b 6 hj (by decide) (by decide)
theorem ar_7 {E : EE} {j : Nat} (hj : j < 37) : AR E (8 * j + 7) 7 := ar_b 7 hj (by decide) (by decide)
theorem ob_b {E : EE} {j : Nat} (hj : j < 37) (f : Nat → Int32) : cellOf E (8 * j) f = .inr (1, bankFs E (8 * j) f) := by
  have h1 : 8 * j < 296 := by omega
  have h2 : 8 * j % 8 = 0 := by omega
  simp only [cellOf, if_pos h1, h2, if_true]
theorem lt_b {j : Nat} (hj : j < 37) : 8 * j < 325 := by omega
def tyE (E : EE) : List (ClassId × FieldType) := [(E.2.2.1.1, .int), (E.2.2.1.2.1, .boolean), (E.2.2.1.2.2, .object RX1)]
def stA (k : Nat) : Int32 := if k = 0 then -1000000 else if k = 1 then 0 else if k = 2 then 1 else if k = 3 then 1 else if k = 4 then 0 else 4
def stS (k : Nat) : Int32 := if k = 0 then 10 else if k = 1 then 11 else if k = 2 then 12 else if k = 3 then 0 else if k = 4 then 13 else 14
def stM (k : Nat) : Int32 := if k = 0 then 20 else if k = 1 then 21 else if k = 2 then 24 else if k = 3 then 22 else if k = 4 then 23 else 0
/-- the class's three static arrays -/
def ST (E : EE) (U : State) (H : Heap) : Prop := (va_Z RX7 "ABOVE" "[I" (.ref E.2.2.2.2.1) E.2.2.2.1 U H ∧ va_T .int E.2.2.2.2.1 6 (fun k => .int (stA k)) E.2.2.2.1 U H) ∧ (va_Z RX7 "SIZE_BODY" "[I" (.ref E.2.2.2.2.2.1) E.2.2.2.1 U H ∧ va_T .int E.2.2.2.2.2.1 6 (fun k => .int (stS k)) E.2.2.2.1 U H) ∧ (va_Z RX7 "MARK_BODY" "[I" (.ref E.2.2.2.2.2.2) E.2.2.2.1 U H ∧ va_T .int E.2.2.2.2.2.2 6 (fun k => .int (stM k)) E.2.2.2.1 U H)
theorem ST.moved {E : EE} {u U : State} {H : Heap} (hvm : u.vm.Alike U.vm) (h : ST E u H) : ST E U H := ⟨⟨h.1.1.moved hvm, h.1.2.moved hvm⟩, ⟨h.2.1.1.moved hvm, h.2.1.2.moved hvm⟩, ⟨h.2.2.1.moved hvm, h.2.2.2.moved hvm⟩⟩
theorem ST.kept {E : EE} {U : State} {H H1 : Heap} (h : ST E U H) (hq : ∀ a : Nat, a < H.size → ¬ E.2.2.2.1 a → H1[a]? = H[a]?) : ST E U H1 := ⟨⟨h.1.1.kept hq, h.1.2.kept hq⟩, ⟨h.2.1.1.kept hq, h.2.1.2.kept hq⟩, ⟨h.2.2.1.kept hq, h.2.2.2.kept hq⟩⟩
/-- the links between nest mates -/
def NW (U : State) : Prop := (∀ q ∈ nF, va_Nw (.fieldLinkNest q.1 q.2.1 q.2.2.1 q.2.2.2.1 q.2.2.2.2.1 q.2.2.2.2.2) U) ∧ ∀ q ∈ nM, va_Nw (.methodLinkNest q.1 q.2.1 q.2.2.1 q.2.2.2) U
theorem NW.warm {s U : State} (hW : s.WarmedH U.vm) (h : NW s) : NW U := ⟨fun q hq => va_Nw.warmF hW (h.1 q hq), fun q hq => va_Nw.warmM hW (h.2 q hq)⟩
theorem NW.same {u U : State} (e : u.vm = U.vm) (h : NW u) : NW U := ⟨fun q hq => va_Nw.same rfl e (h.1 q hq), fun q hq => va_Nw.same rfl e (h.2 q hq)⟩
/-- a method's start: the pool, the tables -/
def PU (E : EE) (I : II) (U : State) : Prop := va_P E.1 vwCl (pool E I) U.heap ∧ va_K E.1 vwCl (tyE E) U ∧ va_D E.2.2.2.1 (pool E I) ∧ ST E U U.heap ∧ NW U
/-- and its end -/
def BU (E : EE) (I : II) (t : State) : Prop := va_P E.1 vwCl (pool E I) t.heap
def BR (E : EE) (j : Nat) (I : II) (a : Nat) (t : State) : Prop := va_P E.1 vwCl (pool E I) t.heap ∧ a = E.2.1 (8 * j)
/-- within a method: what stays -/
def CX (E : EE) (p : Program) (s : State) (m : MethodId) (args : Array Value) (meth : Method) (c : Code) (cc : ByteArray) (nL : Nat) (ret : Option FieldType) (own : String) : Prop :=
  CallFix p m c cc nL s args lwT own ∧ meth.sig.returnType = ret ∧ meth.locks = false ∧ va_K E.1 vwCl (tyE E) s ∧ ST E s s.heap ∧ NW s
/-- and the pool now -/
def PP (E : EE) (s : State) (H : Heap) (locs : List Loc) (I : II) : Prop := va_P E.1 vwCl (pool E I) H ∧ va_D E.2.2.2.1 (pool E I) ∧ va_S E.2.2.2.1 s.heap H locs
theorem PU.blind {E : EE} {I : II} {av : List Value} : FrameBlind (va_Pc av (PU E I)) := by
  intro a U g mk q
  obtain ⟨q0, qP, qK, qD, qS, qN⟩ := q
  exact ⟨q0, qP, va_K.moved (u := U) (U := U.calling g mk a) (Vm.Alike.refl U.vm) qK, qD, ST.moved (u := U) (U := U.calling g mk a) (Vm.Alike.refl U.vm) qS, NW.same (u := U) (U := U.calling g mk a) rfl qN⟩
section POOL
variable {E : EE} {p : Program} {l : Launch} {e : Env} {R : Room} {s : State} {m : MethodId} {args : Array Value} {below : List Frame} {meth : Method} {c : Code} {H : Heap} {locs : List Loc} {Q : State → Prop}
variable {cc : ByteArray} {pc nL : Nat} {ls : Array Slot} {rest st0 : List Value} {ret : Option FieldType} {own : String} {I : II}
theorem PP.pu (X : CX E p s m args meth c cc nL ret own) (hp : PP E s H locs I) (U : State) (hU : U.heap = H) (hW : s.WarmedH U.vm) : PU E I U := by
  refine ⟨by rw [hU]; exact hp.1, va_K.moved hW.alike X.2.2.2.1, hp.2.1, ?_, NW.warm hW X.2.2.2.2.2⟩
  rw [hU]
  exact ST.moved hW.alike (X.2.2.2.2.1.kept (fun a h1 h2 => hp.2.2.2.1 a h1 h2))
theorem pr_rcv (X : CX E p s m args meth c cc nL ret own) (hp : PP E s H locs I) {k ci : Nat} {q : vw_C} {fs : List Value} (hk : k < 325) (he : cellOf E k (I k) = .inr (ci, fs)) (hc : vwCl[ci]? = some q) : ∃ cell : Cell, H[E.2.1 k]? = some cell ∧ cell.vm.isStatics = false ∧ s.vm.findClass q.1 = some cell.cls :=
  va_recv X.2.2.2.1 hp.1 hc ((pool_at hk).trans (by rw [he]))
theorem pr_rcvb (X : CX E p s m args meth c cc nL ret own) (hp : PP E s H locs I) {j : Nat} (hj : j < 37) : ∃ cell : Cell, H[E.2.1 (8 * j)]? = some cell ∧ cell.vm.isStatics = false ∧ s.vm.findClass RX1 = some cell.cls :=
  pr_rcv X hp (lt_b hj) (ob_b hj _) (q := (RX1, TX1, 17)) rfl
theorem gt_f (X : CX E p s m args meth c cc nL ret own) (hp : PP E s H locs I) {k ci N slot index : Nat} {C : String} {T : u_T} {fs : List Value} {v : Value} (hk : k < 325) (he : cellOf E k (I k) = .inr (ci, fs)) (hc : vwCl[ci]? = some (C, T, N)) (hin : ∀ w ∈ u_ws C T N, w ∈ lwT) (hs : slot < N) (hl : Cond.fieldLink own index (T slot).1 (T slot).2.1 (T slot).2.2.1 ∈ lwT) (hv : fs[slot]? = some v) (hdg : decode cc pc = .ok (.getfield index, 3))
    (kk : W p l e R s m args below meth c H locs 0 0 Q (F0 m (pc + 3) ls (v :: rest))) : W p l e R s m args below meth c H locs 0 0 Q (F0 m pc ls (.ref (E.2.1 k) :: rest)) :=
  va_get (D := E.1) (ci := ci) (v := v) (C := C) (T := T) (N := N) X.1.1 X.1.2.1 X.1.2.2.2.2 hin X.1.2.2.2.1 X.2.2.2.1 hp.1 k ((pool_at hk).trans (by rw [he])) hc slot hs (X.1.2.2.2.2 _ hl) (fun _ h => h) hv hdg kk
theorem gt_n (X : CX E p s m args meth c cc nL ret own) (hp : PP E s H locs I) {k ci N slot index : Nat} {C host : String} {T : u_T} {fs : List Value} {v : Value} (hk : k < 325) (he : cellOf E k (I k) = .inr (ci, fs)) (hc : vwCl[ci]? = some (C, T, N)) (hin : ∀ w ∈ u_ws C T N, w ∈ lwT) (hs : slot < N) (hl : (own, index, (T slot).1, (T slot).2.1, (T slot).2.2.1, host) ∈ nF) (hv : fs[slot]? = some v) (hdg : decode cc pc = .ok (.getfield index, 3))
    (kk : W p l e R s m args below meth c H locs 0 0 Q (F0 m (pc + 3) ls (v :: rest))) : W p l e R s m args below meth c H locs 0 0 Q (F0 m pc ls (.ref (E.2.1 k) :: rest)) :=
  va_getN (D := E.1) (ci := ci) (v := v) (C := C) (T := T) (N := N) X.1.1 X.1.2.1 X.1.2.2.2.2 hin X.1.2.2.2.1 X.2.2.2.1 hp.1 k ((pool_at hk).trans (by rw [he])) hc slot hs (va_Nw.use rfl (X.2.2.2.2.2.1 _ hl)) (fun _ h => h) hv hdg kk
theorem pt_f (X : CX E p s m args meth c cc nL ret own) (hp : PP E s H locs I) {k ci N slot index : Nat} {C : String} {T : u_T} {fs : List Value} {x : Int32} {ty : FieldType} (hk : k < 325) (he : cellOf E k (I k) = .inr (ci, fs)) (hc : vwCl[ci]? = some (C, T, N)) (hin : ∀ w ∈ u_ws C T N, w ∈ lwT) (ty0 : Nat → FieldType) (hty : ∀ k, k < N → parseFieldDescriptor (T k).2.2.1 = some (ty0 k)) (hnm : ∀ a, a < N → ∀ b, b < N → a ≠ b → (T a).2.1 ≠ (T b).2.1) (hs : slot < N) (hl : Cond.fieldLink own index (T slot).1 (T slot).2.1 (T slot).2.2.1 ∈ lwT) (hf : (T slot).2.2.2 = false) (hd : parseFieldDescriptor (T slot).2.2.1 = some ty) (hn : narrow ty (.int x) = .int x) (hfit : fits ty (.int x) = true) (hlen : slot < fs.length) (hset : cellOf E k (upd (I k) slot x) = .inr (ci, fs.set slot (.int x))) (hdg : decode cc pc = .ok (.putfield index, 3))
    (kk : ∀ (H1 : Heap) (locs1 : List Loc), PP E s H1 locs1 (su I k slot x) → W p l e R s m args below meth c H1 locs1 0 0 Q (F0 m (pc + 3) ls rest)) : W p l e R s m args below meth c H locs 0 0 Q (F0 m pc ls (.int x :: .ref (E.2.1 k) :: rest)) := by
  refine va_put (D := E.1) (ci := ci) (v := .int x) (C := C) (T := T) (N := N) X.1.1 X.1.2.1 X.1.2.2.2.2 hin ty0 hty hnm X.1.2.2.2.1 X.2.2.2.1 hp.1 hp.2.1 hp.2.2 k ((pool_at hk).trans (by rw [he])) hc slot hs (X.1.2.2.2.2 _ hl) (fun _ h => h) hf hd hn hfit hlen hdg (fun H1 locs1 h1 h2 h3 => ?_)
  rw [← hset, pool_up hk] at h1
  exact kk H1 locs1 ⟨h1, pool_D hp.2.1 _, h3⟩
theorem pt_n (X : CX E p s m args meth c cc nL ret own) (hp : PP E s H locs I) {k ci N slot index : Nat} {C host : String} {T : u_T} {fs : List Value} {x : Int32} {ty : FieldType} (hk : k < 325) (he : cellOf E k (I k) = .inr (ci, fs)) (hc : vwCl[ci]? = some (C, T, N)) (hin : ∀ w ∈ u_ws C T N, w ∈ lwT) (ty0 : Nat → FieldType) (hty : ∀ k, k < N → parseFieldDescriptor (T k).2.2.1 = some (ty0 k)) (hnm : ∀ a, a < N → ∀ b, b < N → a ≠ b → (T a).2.1 ≠ (T b).2.1) (hs : slot < N) (hl : (own, index, (T slot).1, (T slot).2.1, (T slot).2.2.1, host) ∈ nF) (hf : (T slot).2.2.2 = false) (hd : parseFieldDescriptor (T slot).2.2.1 = some ty) (hn : narrow ty (.int x) = .int x) (hfit : fits ty (.int x) = true) (hlen : slot < fs.length) (hset : cellOf E k (upd (I k) slot x) = .inr (ci, fs.set slot (.int x))) (hdg : decode cc pc = .ok (.putfield index, 3))
    (kk : ∀ (H1 : Heap) (locs1 : List Loc), PP E s H1 locs1 (su I k slot x) → W p l e R s m args below meth c H1 locs1 0 0 Q (F0 m (pc + 3) ls rest)) : W p l e R s m args below meth c H locs 0 0 Q (F0 m pc ls (.int x :: .ref (E.2.1 k) :: rest)) := by
  refine va_putN (D := E.1) (ci := ci) (v := .int x) (C := C) (T := T) (N := N) X.1.1 X.1.2.1 X.1.2.2.2.2 hin ty0 hty hnm X.1.2.2.2.1 X.2.2.2.1 hp.1 hp.2.1 hp.2.2 k ((pool_at hk).trans (by rw [he])) hc slot hs (va_Nw.use rfl (X.2.2.2.2.2.1 _ hl)) (fun _ h => h) hf hd hn hfit hlen hdg (fun H1 locs1 h1 h2 h3 => ?_)
  rw [← hset, pool_up hk] at h1
  exact kk H1 locs1 ⟨h1, pool_D hp.2.1 _, h3⟩
theorem al_i (X : CX E p s m args meth c cc nL ret own) (hp : PP E s H locs I) {k n : Nat} {i : Int32} (hA : AR E k n) (hin : vp_in i n) (hdg : decode cc pc = .ok (.iaload, 1))
    (kk : W p l e R s m args below meth c H locs 0 0 Q (F0 m (pc + 1) ls (.int (I k i.toNatClampNeg) :: rest))) : W p l e R s m args below meth c H locs 0 0 Q (F0 m pc ls (.int i :: .ref (E.2.1 k) :: rest)) :=
  va_iald X.1.1 X.1.2.1 X.2.2.2.1 hp.1 k 0 ((pool_at hA.1).trans (by rw [hA.2])) rfl hin hdg kk
theorem as_i (X : CX E p s m args meth c cc nL ret own) (hp : PP E s H locs I) {k n : Nat} {i x : Int32} (hA : AR E k n) (hin : vp_in i n) (hdg : decode cc pc = .ok (.iastore, 1))
    (kk : ∀ (H1 : Heap) (locs1 : List Loc), PP E s H1 locs1 (su I k i.toNatClampNeg x) → W p l e R s m args below meth c H1 locs1 0 0 Q (F0 m (pc + 1) ls rest)) : W p l e R s m args below meth c H locs 0 0 Q (F0 m pc ls (.int x :: .int i :: .ref (E.2.1 k) :: rest)) := by
  refine va_iast X.1.1 X.1.2.1 X.2.2.2.1 hp.1 hp.2.1 hp.2.2 k 0 ((pool_at hA.1).trans (by rw [hA.2])) rfl hin hdg (fun H1 locs1 h1 h2 h3 => ?_)
  rw [← hA.2, pool_up hA.1] at h1
  exact kk H1 locs1 ⟨h1, pool_D hp.2.1 _, h3⟩
theorem cz_317 (f : Nat → Int32) : cellOf E 317 f = .inl (E.2.2.1.2.1, 2, .inl f) := rfl
theorem al_z (X : CX E p s m args meth c cc nL ret own) (hp : PP E s H locs I) {i : Int32} (hin : vp_in i 2) (hdg : decode cc pc = .ok (.baload, 1))
    (kk : W p l e R s m args below meth c H locs 0 0 Q (F0 m (pc + 1) ls (.int (I 317 i.toNatClampNeg) :: rest))) : W p l e R s m args below meth c H locs 0 0 Q (F0 m pc ls (.int i :: .ref (E.2.1 317) :: rest)) :=
  va_zald X.1.1 X.1.2.1 X.2.2.2.1 hp.1 317 1 ((pool_at (by decide)).trans (by rw [cz_317])) rfl hin hdg kk
theorem as_z (X : CX E p s m args meth c cc nL ret own) (hp : PP E s H locs I) {i : Int32} (hin : vp_in i 2) (hdg : decode cc pc = .ok (.bastore, 1))
    (kk : ∀ (H1 : Heap) (locs1 : List Loc), PP E s H1 locs1 (su I 317 i.toNatClampNeg 1) → W p l e R s m args below meth c H1 locs1 0 0 Q (F0 m (pc + 1) ls rest)) : W p l e R s m args below meth c H locs 0 0 Q (F0 m pc ls (.int 1 :: .int i :: .ref (E.2.1 317) :: rest)) := by
  refine va_zast X.1.1 X.1.2.1 X.2.2.2.1 hp.1 hp.2.1 hp.2.2 317 1 ((pool_at (by decide)).trans (by rw [cz_317])) rfl hin hdg (fun H1 locs1 h1 h2 h3 => ?_)
  rw [← cz_317, pool_up (by decide)] at h1
  exact kk H1 locs1 ⟨h1, pool_D hp.2.1 _, h3⟩
/-- cell k is an array of n banks, from number j on -/
def BA (E : EE) (k n j : Nat) : Prop := k < 325 ∧ ∀ f : Nat → Int32, cellOf E k f = .inl (E.2.2.1.2.2, n, .inr (.inr (.inr (.inr (fun i => some (E.2.1 (8 * (j + i))))))))
theorem ba_304 : BA E 304 24 5 := ⟨by decide, fun _ => rfl⟩
theorem ba_305 : BA E 305 2 3 := ⟨by decide, fun _ => rfl⟩
theorem ba_309 : BA E 309 8 29 := ⟨by decide, fun _ => rfl⟩
theorem al_a (X : CX E p s m args meth c cc nL ret own) (hp : PP E s H locs I) {k n j : Nat} {i : Int32} (hA : BA E k n j) (hin : vp_in i n) (hdg : decode cc pc = .ok (.aaload, 1))
    (kk : W p l e R s m args below meth c H locs 0 0 Q (F0 m (pc + 1) ls (.ref (E.2.1 (8 * (j + i.toNatClampNeg))) :: rest))) : W p l e R s m args below meth c H locs 0 0 Q (F0 m pc ls (.int i :: .ref (E.2.1 k) :: rest)) :=
  va_aldq (f := fun i => some (E.2.1 (8 * (j + i)))) X.1.1 X.1.2.1 X.2.2.2.1 hp.1 k 2 ((pool_at hA.1).trans (by rw [hA.2])) rfl hin hdg kk
theorem vi_lt {i : Int32} {n : Nat} (h : vp_in i n) : i.toNatClampNeg < n := Nat.not_le.mp fun q => h (Or.inr q)
theorem bk_5 {i : Int32} (h : vp_in i 24) : 5 + i.toNatClampNeg < 37 := by have := vi_lt h; omega
theorem bk_3 {i : Int32} (h : vp_in i 2) : 3 + i.toNatClampNeg < 37 := by have := vi_lt h; omega
theorem bk_29 {i : Int32} (h : vp_in i 8) : 29 + i.toNatClampNeg < 37 := by have := vi_lt h; omega
theorem cp_i (X : CX E p s m args meth c cc nL ret own) (hp : PP E s H locs I) {k0 k1 n0 n1 index : Nat} {sp dp n : Int32} (hA0 : AR E k0 n0) (hA1 : AR E k1 n1) (hl : Cond.methodLink own index arraycopyName ∈ lwT) (hls : ls.size = nL) (h1 : ¬ sp < 0) (h2 : ¬ dp < 0) (h3 : ¬ n < 0) (h4 : sp.toNatClampNeg + n.toNatClampNeg ≤ n0) (h5 : dp.toNatClampNeg + n.toNatClampNeg ≤ n1) (hR : 1 ≤ R.frames ∧ (rest.map fun v => v.category).sum + (nativeFrameWords "java/lang/System" "arraycopy" 5 + 11) ≤ R.locals) (hdg : decode cc pc = .ok (.invokestatic index, 3))
    (kk : ∀ (H1 : Heap) (locs1 : List Loc), PP E s H1 locs1 (va_up I k1 (va_cpy (I k0) (I k1) sp.toNatClampNeg dp.toNatClampNeg n.toNatClampNeg)) → W p l e R s m args below meth c H1 locs1 0 0 Q (F0 m (pc + 3) ls rest)) : W p l e R s m args below meth c H locs 0 0 Q (F0 m pc ls (.int n :: .int dp :: .ref (E.2.1 k1) :: .int sp :: .ref (E.2.1 k0) :: rest)) := by
  refine va_copyi X.1.1 X.1.2.1 (by rw [X.1.2.2.1, hls]) X.1.2.2.2.1 (X.1.2.2.2.2 _ hl) (X.1.2.2.2.2 _ tw_na_arraycopyName) (X.1.2.2.2.2 _ tw_st_arraycopyName) (X.1.2.2.2.2 _ tw_in_J10) X.2.2.2.1 hp.1 hp.2.1 hp.2.2 k0 k1 0 0 ((pool_at hA0.1).trans (by rw [hA0.2])) ((pool_at hA1.1).trans (by rw [hA1.2])) rfl rfl rfl h1 h2 h3 h4 h5 (fun i _ => rfl) hR.1 hR.2 hdg (fun H1 locs1 g1 g2 g3 => ?_)
  rw [← hA1.2, pool_up hA1.1] at g1
  exact kk H1 locs1 ⟨g1, pool_D hp.2.1 _, g3⟩
theorem mn_i (X : CX E p s m args meth c cc nL ret own) {index : Nat} (hl : Cond.methodLink own index Lib.Math.min.name ∈ lwT) (hls : ls.size = nL) (hR : 1 ≤ R.frames ∧ (rest.map fun v => v.category).sum + 13 ≤ R.locals) {x y : Int32} (hdg : decode cc pc = .ok (.invokestatic index, 3))
    (kk : W p l e R s m args below meth c H locs 0 0 Q (F0 m (pc + 3) ls (.int (if y < x then y else x) :: rest))) : W p l e R s m args below meth c H locs 0 0 Q (F0 m pc ls (.int y :: .int x :: rest)) :=
  va_mmin X.1.1 X.1.2.1 (by rw [X.1.2.2.1, hls]) X.1.2.2.2.1 (X.1.2.2.2.2 _ hl) (X.1.2.2.2.2 _ tw_st_Lib_Math_min_name) (X.1.2.2.2.2 _ tw_in_J9) (X.1.2.2.2.2 _ tw_c_J9_min_7cf53) hR.1 hR.2 (Nat.zero_le _) (Nat.zero_le _) hdg kk
-- returns
theorem rt_i (X : CX E p s m args meth c cc nL (some .int) own) (hp : PP E s H locs I) {Q' : Int32 → II → Prop} {v : Int32} (hq : Q' v I) (hdg : decode cc pc = .ok (.ireturn, 1)) : W p l e R s m args below meth c H locs 0 0 (MQ below (va_Qi Q' (BU E) E.2.2.2.1) args s 0 0 E.2.2.2.1) (F0 m pc ls [.int v]) :=
  W.iret X.1.1 X.1.2.1 X.2.1 (fun t ht hW => ⟨⟨v, I, rfl, hq, by show va_P _ _ _ _; rw [ht]; exact hp.1⟩, hp.2.2.F ht⟩) hp.2.2.2.2 hdg X.2.2.1
theorem nb_of {r : Int32} (h : isb r) : narrow .boolean (.int r) = .int r := by rcases h with rfl | rfl <;> rfl
theorem fb_of {r : Int32} (h : isb r) : fits .boolean (.int r) = true := by rcases h with rfl | rfl <;> rfl
theorem rt_z (X : CX E p s m args meth c cc nL (some .boolean) own) (hp : PP E s H locs I) {Q' : Int32 → II → Prop} {v : Int32} (hq : isb v ∧ Q' v I) (hdg : decode cc pc = .ok (.ireturn, 1)) : W p l e R s m args below meth c H locs 0 0 (MQ below (va_Qi Q' (BU E) E.2.2.2.1) args s 0 0 E.2.2.2.1) (F0 m pc ls [.int v]) :=
  W.zret X.1.1 X.1.2.1 X.2.1 (nb_of hq.1) (fun t ht hW => ⟨⟨v, I, rfl, hq.2, by show va_P _ _ _ _; rw [ht]; exact hp.1⟩, hp.2.2.F ht⟩) hp.2.2.2.2 hdg X.2.2.1
theorem rt_l (X : CX E p s m args meth c cc nL (some .long) own) (hp : PP E s H locs I) {Q' : Int64 → II → Prop} {v : Int64} (hq : Q' v I) (hdg : decode cc pc = .ok (.lreturn, 1)) : W p l e R s m args below meth c H locs 0 0 (MQ below (va_Ql Q' (BU E) E.2.2.2.1) args s 0 0 E.2.2.2.1) (F0 m pc ls [.long v]) :=
  W.lret X.1.1 X.1.2.1 X.2.1 (fun t ht hW => ⟨⟨v, I, rfl, hq, by show va_P _ _ _ _; rw [ht]; exact hp.1⟩, hp.2.2.F ht⟩) hp.2.2.2.2 hdg X.2.2.1
theorem rt_v (X : CX E p s m args meth c cc nL none own) (hp : PP E s H locs I) {Q' : II → Prop} (hq : Q' I) (hdg : decode cc pc = .ok (.return_, 1)) : W p l e R s m args below meth c H locs 0 0 (MQ below (va_Qv Q' (BU E) E.2.2.2.1) args s 0 0 E.2.2.2.1) (F0 m pc ls []) :=
  W.vret X.1.1 X.1.2.1 X.2.1 (fun t ht hW => ⟨⟨I, rfl, hq, by show va_P _ _ _ _; rw [ht]; exact hp.1⟩, hp.2.2.F ht⟩) hp.2.2.2.2 hdg X.2.2.1
theorem rt_r (X : CX E p s m args meth c cc nL (some (.object "TellerDays$Bank")) own) (hp : PP E s H locs I) {Q' : II → Prop} {j : Nat} (hq : Q' I) (hdg : decode cc pc = .ok (.areturn, 1)) : W p l e R s m args below meth c H locs 0 0 (MQ below (va_Qr Q' (BR E j) E.2.2.2.1) args s 0 0 E.2.2.2.1) (F0 m pc ls [.ref (E.2.1 (8 * j))]) :=
  W.aret X.1.1 X.1.2.1 X.2.1 (Or.inl ⟨_, rfl⟩) (Or.inr ⟨_, rfl⟩) (fun t ht hW => ⟨⟨I, _, rfl, hq, by rw [ht]; exact hp.1, rfl⟩, hp.2.2.F ht⟩) hp.2.2.2.2 hdg X.2.2.1
-- calls
def VF (y : MethodName) (C : String) (bytes : ByteArray) (maxL : Nat) (rt : Option FieldType) (n : Nat) : Prop := Cond.initialized y.cls ∈ lwT ∧ Cond.instanceMethod y ∈ lwT ∧ Cond.selects C y y ∈ lwT ∧ Cond.code y bytes maxL rt ∈ lwT ∧ y.cls ≠ "java/lang/invoke/MethodHandle" ∧ y.cls ≠ "java/lang/invoke/VarHandle" ∧ (parseMethodDescriptor y.desc).map (fun d => d.parameters.length) = some n
def SF (y : MethodName) (bytes : ByteArray) (maxL : Nat) (rt : Option FieldType) (n : Nat) : Prop := Cond.initialized y.cls ∈ lwT ∧ Cond.static y ∈ lwT ∧ Cond.code y bytes maxL rt ∈ lwT ∧ y.cls ≠ "java/lang/invoke/MethodHandle" ∧ y.cls ≠ "java/lang/invoke/VarHandle" ∧ (parseMethodDescriptor y.desc).map (fun d => d.parameters.length) = some n
def RMok (rm R : Room) (maxL : Nat) : Prop := rm.cells = 0 ∧ rm.slots = 0 ∧ rm.frames + 1 ≤ R.frames ∧ 8 + (maxL + 11) + rm.locals ≤ R.locals
variable {y : MethodName} {C : String} {bytes : ByteArray} {maxL n index : Nat} {rt : Option FieldType} {rm : Room} {As : List Value} {b : Nat} {Qc : Array Value → State → Outcome → State → Prop}
theorem kV (X : CX E p s m args meth c cc nL ret own) (hp : PP E s H locs I) (M : Met l y (Cond.code y bytes maxL rt :: lwT) rm (va_Pc (.ref b :: As) (PU E I)) Qc 0 0 E.2.2.2.1) (hl : Cond.methodLink own index y ∈ lwT) (F : VF y C bytes maxL rt n) (hR : RMok rm R maxL) (hb : ∃ cell : Cell, H[b]? = some cell ∧ cell.vm.isStatics = false ∧ s.vm.findClass C = some cell.cls) (hn : As.length = n) (hls : ls.size = nL) (hst : st0 = As.reverse ++ .ref b :: rest) (hw : (rest.map fun v => v.category).sum ≤ 8) (hdg : decode cc pc = .ok (.invokevirtual index, 3)) :
    va_Run p l e R s m args below meth c H locs 0 0 0 0 (F0 m pc ls st0) rest (Qc (Value.ref b :: As).toArray) E.2.2.2.1 :=
  va_runV X.1 M ⟨callB_of n X.1.2.2.2.2 (gT F.2.2.2.1) rfl hR.1 hR.2.1 (X.1.2.2.2.2 _ F.1) (X.1.2.2.2.2 _ hl) F.2.2.2.2 hR.2.2, X.1.2.2.2.2 _ F.2.1, X.1.2.2.2.2 _ F.2.2.1⟩ ⟨PU.blind, hb, fun U hU hW => ⟨rfl, hp.pu X U hU hW⟩⟩ rfl hn hls hst (lv_room hw) hdg ⟨Nat.zero_le _, Nat.zero_le _⟩
theorem kS (X : CX E p s m args meth c cc nL ret own) (hp : PP E s H locs I) (M : Met l y (Cond.code y bytes maxL rt :: lwT) rm (va_Pc As (PU E I)) Qc 0 0 E.2.2.2.1) (hl : Cond.methodLink own index y ∈ lwT) (F : SF y bytes maxL rt n) (hR : RMok rm R maxL) (hn : As.length = n) (hls : ls.size = nL) (hst : st0 = As.reverse ++ rest) (hw : (rest.map fun v => v.category).sum ≤ 8) (hdg : decode cc pc = .ok (.invokestatic index, 3)) :
    va_Run p l e R s m args below meth c H locs 0 0 0 0 (F0 m pc ls st0) rest (Qc As.toArray) E.2.2.2.1 :=
  va_runS X.1 M ⟨callB_of n X.1.2.2.2.2 (gT F.2.2.1) rfl hR.1 hR.2.1 (X.1.2.2.2.2 _ F.1) (X.1.2.2.2.2 _ hl) F.2.2.2 hR.2.2, X.1.2.2.2.2 _ F.2.1⟩ ⟨PU.blind, fun U hU hW => ⟨rfl, hp.pu X U hU hW⟩⟩ rfl hn hls hst (lv_room hw) hdg ⟨Nat.zero_le _, Nat.zero_le _⟩
theorem kSN {host : String} (X : CX E p s m args meth c cc nL ret own) (hp : PP E s H locs I) (M : Met l y (Cond.code y bytes maxL rt :: lwT) rm (va_Pc As (PU E I)) Qc 0 0 E.2.2.2.1) (hl : (own, index, y, host) ∈ nM) (F : SF y bytes maxL rt n) (hR : RMok rm R maxL) (hn : As.length = n) (hls : ls.size = nL) (hst : st0 = As.reverse ++ rest) (hw : (rest.map fun v => v.category).sum ≤ 8) (hdg : decode cc pc = .ok (.invokestatic index, 3)) :
    va_Run p l e R s m args below meth c H locs 0 0 0 0 (F0 m pc ls st0) rest (Qc As.toArray) E.2.2.2.1 :=
  va_runSN X.1 M ⟨va_cnB n X.1.2.2.2.2 (gT F.2.2.1) rfl hR.1 hR.2.1 (X.2.2.2.2.2.2 _ hl) (X.1.2.2.2.2 _ F.1) F.2.2.2 hR.2.2, X.1.2.2.2.2 _ F.2.1, trivial⟩ ⟨PU.blind, fun U hU hW => ⟨rfl, hp.pu X U hU hW⟩⟩ rfl hn hls hst (lv_room hw) hdg ⟨Nat.zero_le _, Nat.zero_le _⟩
variable {av : Array Value}
theorem ki {Q' : Int32 → II → Prop} (hr : va_Run p l e R s m args below meth c H locs 0 0 0 0 (F0 m pc ls st0) rest (va_Qi Q' (BU E) E.2.2.2.1 av) E.2.2.2.1) (hp : PP E s H locs I) (kk : ∀ (r : Int32) (J : II) (H1 : Heap) (locs1 : List Loc), Q' r J → PP E s H1 locs1 J → W p l e R s m args below meth c H1 locs1 0 0 Q (F0 m (pc + 3) ls (.int r :: rest))) : W p l e R s m args below meth c H locs 0 0 Q (F0 m pc ls st0) :=
  va_calli hr hp.2.2 (fun _ _ h => h) (fun _ h => h) (fun r u t H1 locs1 ht hvm hw hB hz1 hk1 hS => kk r u H1 locs1 hw ⟨by rw [← ht]; exact hB, pool_D hp.2.1 _, hS⟩)
theorem kl {Q' : Int64 → II → Prop} (hr : va_Run p l e R s m args below meth c H locs 0 0 0 0 (F0 m pc ls st0) rest (va_Ql Q' (BU E) E.2.2.2.1 av) E.2.2.2.1) (hp : PP E s H locs I) (kk : ∀ (r : Int64) (J : II) (H1 : Heap) (locs1 : List Loc), Q' r J → PP E s H1 locs1 J → W p l e R s m args below meth c H1 locs1 0 0 Q (F0 m (pc + 3) ls (.long r :: rest))) : W p l e R s m args below meth c H locs 0 0 Q (F0 m pc ls st0) :=
  va_calll hr hp.2.2 (fun _ _ h => h) (fun _ h => h) (fun r u t H1 locs1 ht hvm hw hB hz1 hk1 hS => kk r u H1 locs1 hw ⟨by rw [← ht]; exact hB, pool_D hp.2.1 _, hS⟩)
theorem kv {Q' : II → Prop} (hr : va_Run p l e R s m args below meth c H locs 0 0 0 0 (F0 m pc ls st0) rest (va_Qv Q' (BU E) E.2.2.2.1 av) E.2.2.2.1) (hp : PP E s H locs I) (kk : ∀ (J : II) (H1 : Heap) (locs1 : List Loc), Q' J → PP E s H1 locs1 J → W p l e R s m args below meth c H1 locs1 0 0 Q (F0 m (pc + 3) ls rest)) : W p l e R s m args below meth c H locs 0 0 Q (F0 m pc ls st0) :=
  va_callv hr hp.2.2 (fun _ _ h => h) (fun _ h => h) (fun u t H1 locs1 ht hvm hw hB hz1 hk1 hS => kk u H1 locs1 hw ⟨by rw [← ht]; exact hB, pool_D hp.2.1 _, hS⟩)
theorem kr {j : Nat} {Q' : II → Prop} (hr : va_Run p l e R s m args below meth c H locs 0 0 0 0 (F0 m pc ls st0) rest (va_Qr Q' (BR E j) E.2.2.2.1 av) E.2.2.2.1) (hp : PP E s H locs I) (kk : ∀ (J : II) (H1 : Heap) (locs1 : List Loc), Q' J → PP E s H1 locs1 J → W p l e R s m args below meth c H1 locs1 0 0 Q (F0 m (pc + 3) ls (.ref (E.2.1 (8 * j)) :: rest))) : W p l e R s m args below meth c H locs 0 0 Q (F0 m pc ls st0) :=
  va_callr hr hp.2.2 (fun _ _ h => h) (fun _ h => h) (fun u ra t H1 locs1 ht hvm hw hB hz1 hk1 hS => by
    obtain ⟨h1, h2⟩ := hB
    subst h2
    exact kk u H1 locs1 hw ⟨by rw [← ht]; exact h1, pool_D hp.2.1 _, hS⟩)
/-- a contract out of its walk -/
theorem ofWalk (av : List Value) (hy : plainName y.cls = true) (hco : Cond.code y bytes maxL rt ∈ lwT) (hav : (lg_sl av).length ≤ maxL)
    (body : ∀ (p : Program) (e : Env) (s : State) (m : MethodId) (below : List Frame) (meth : Method) (c : Code) (ls : Array Slot), CX E p s m av.toArray meth c bytes maxL rt y.cls → PP E s s.heap [] I → lv_has ls maxL (lv_args 0 av) → W p l e rm s m av.toArray below meth c s.heap [] 0 0 (MQ below Qc av.toArray s 0 0 E.2.2.2.1) (F0 m 0 ls [])) :
    Met l y (Cond.code y bytes maxL rt :: lwT) rm (va_Pc av (PU E I)) Qc 0 0 E.2.2.2.1 := by
  refine Met.ofW (cc := bytes) (maxL := maxL) (ret := rt) hy rfl ?_
  intro p e s m args below meth c s₁ B hml hv
  obtain ⟨rfl, hP, hK, hD, hST, hN⟩ := hv
  have hts := atoms_spec (ws := Cond.code y bytes maxL rt :: lwT) B.pre
  have X : CX E p s m av.toArray meth c bytes maxL rt y.cls := ⟨⟨B.exec, B.bytes, hml, findClass_of_methodNamed B.named, fun w hw => hts w (List.mem_cons_of_mem _ hw)⟩, B.returns, B.notSynchronized, hK, hST, hN⟩
  have hl := lv_entry av (n := maxL) hav
  rw [lg_entry_eq]
  exact body p e s m below meth c _ X ⟨hP, hD, va_S.rf⟩ hl
end POOL

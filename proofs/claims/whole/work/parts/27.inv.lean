/-! ===== pure: what ORDER and SHARE are; the relation between class and reference ===== -/
def prm : Nat → List Nat → List (List Nat)
  | 0, _ => [[]]
  | n + 1, l => l.flatMap (fun x => (prm n (l.erase x)).map (fun r => x :: r))
def inQ (f : TW) (p : Nat) : Bool := (List.range (tw f)).any (fun k => decide (tq f k = p))
/-- the papers that wait, by their numbers -/
def srt (f : TW) : List Nat := (List.range 7).filter (inQ f)
def setQ (f : TW) (l : List Nat) : TW := fun q => if 8 ≤ q ∧ q < 8 + l.length then nI (l.getD (q - 8) 0) else f q
def lsum (f : TW) : Nat → Int32
  | 0 => nI 0
  | t + 1 => lsum f t + f (41 + t)
def evP (f : TW) (l : List Nat) : Int32 := itF (setQ f l) (tw f) 4 - f 4
def evL (f : TW) (l : List Nat) : Int32 := lsum (itF (setQ f l) (tw f)) (tn f)
def bO (f : TW) (b : Int32 × Int32 × List Nat) (l : List Nat) : Int32 × Int32 × List Nat := if b.1 < evP f l ∨ (evP f l = b.1 ∧ b.2.1 < evL f l) then (evP f l, evL f l, l) else b
def ordS (f : TW) : Int32 × Int32 × List Nat := (prm (tw f) (srt f)).foldl (bO f) (-nI 1, nI 0, [])
def seqs : Nat → List (List Nat)
  | 0 => [[]]
  | n + 1 => [0, 1, 2, 3].flatMap (fun x => (seqs n).map (fun r => x :: r))
/-- the queue from place k on is served by these tellers -/
def srvS (f : TW) : Nat → List Nat → Option TW
  | _, [] => some f
  | k, t :: l => if decide (t < tn f) && (!decide (f (22 + tq f k) = nI 1) || pyT f t (f (15 + tq f k))) then srvS (takeT f t (tq f k)) (k + 1) l else none
def poor (f : TW) : Nat → Int32
  | 0 => nI 99
  | t + 1 => if f (41 + t) < poor f t then f (41 + t) else poor f t
def bS (f : TW) (b : Int32 × List Nat) (l : List Nat) : Int32 × List Nat := match srvS f 0 l with
  | none => b
  | some g => if b.1 < poor g (tn f) then (poor g (tn f), l) else b
def shrS (f : TW) : Int32 × List Nat := (seqs (tw f)).foldl (bS f) ((-nI 1000000), [])
/-- the class's bank, and what can be undone: h 0 the latest -/
def AC (I : II) (f : TW) (sz lt : Nat) (h : Nat → TW) : Prop := BK True I 0 f ∧ I 303 2 = nI sz ∧ I 303 1 = nI lt ∧ lt < 24 ∧ ∀ i, i < sz → BK True I (5 + (lt + 24 - i) % 24) (h i)
/-- the reference's -/
def AM (I : II) (f : TW) (sz : Nat) (h : Nat → TW) : Prop := (∀ q, q < 49 → I 316 q = f q) ∧ I 315 2 = nI sz ∧ I 315 1 = i1 (decide (0 < tn f)) ∧ ∀ i, i < sz → ∀ q, q < 49 → I 316 (49 + 49 * (sz - 1 - i) + q) = h i q
def PH (f : TW) (sz : Nat) (h : Nat → TW) : Prop := WF f ∧ (tn f = 0 → tw f = 0) ∧ sz ≤ 24 ∧ (0 < sz → 0 < tn f) ∧ ∀ i, i < sz → WF (h i) ∧ 0 < tn (h i)
def IMG (I : II) : Prop := ∀ k, k < 2 → (I 317 k = nI 0 ∧ I (8 * (3 + k)) 2 = nI 0) ∨ (I 317 k = nI 1 ∧ I 315 1 = nI 1 ∧ ∃ g, WF g ∧ 0 < tn g ∧ (∀ q, q < 49 → I 316 (1225 + 49 * k + q) = g q) ∧ BK True I (3 + k) g)
def ROW (I : II) : Prop := ∀ r, r < 8 → (I 298 r = (-nI 1000000) ∧ I 299 r = nI 0 ∧ I 319 r = -nI 1) ∨ ∃ z ln, z ≤ 40 ∧ ln ≤ 2 ∧ I 298 r = nI ln ∧ I 318 r = nI ln ∧ I 299 r = nI z ∧ I 319 r = nI z ∧ ∀ i, i < z → I 300 (40 * r + i) = I 320 (40 * r + i)
def TAP (I : II) : Prop := ∃ z, z ≤ 120 ∧ I 301 2 = nI z ∧ I 315 8 = nI z ∧ ∀ i, i < z → I 302 i = I 321 i
def MSC (I : II) : Prop := I 301 5 = I 315 9 ∧ I 296 8 = I 315 10
def ASK (I : II) : Prop := ∃ z, z ≤ 16 ∧ I 313 1 = nI z ∧ I 315 12 = nI z ∧ ∀ i, i < z → I 314 i = I 322 i
def ORD (I : II) (f : TW) : Prop := I 308 9 = nI 0 ∨ (I 308 9 = nI 1 ∧ I 308 4 = f 7 ∧ I 308 6 = (ordS f).1 ∧ I 308 7 = (ordS f).2.1 ∧ ∀ k, k < tw f → I 311 k = nI ((ordS f).2.2.getD k 0))
def SHR (I : II) (f : TW) : Prop := I 308 10 = nI 0 ∨ (I 308 10 = nI 1 ∧ I 308 4 = f 7 ∧ I 308 8 = (shrS f).1 ∧ (¬ (shrS f).1 = (-nI 1000000) → ∀ k, k < tw f → I 312 k = nI ((shrS f).2.getD k 0)))
def INV (I : II) : Prop := ∃ f sz lt h, PH f sz h ∧ AC I f sz lt h ∧ AM I f sz h ∧ (ORD I f ∧ SHR I f) ∧ IMG I ∧ ROW I ∧ TAP I ∧ MSC I ∧ ASK I
-- what each rests on
theorem BK.fr {s : Prop} {I J : II} {j : Nat} {f : TW} (h : BK s I j f) (e : ∀ a, 8 * j ≤ a → a < 8 * j + 8 → J a = I a) : BK s J j f := by
  obtain ⟨hx, ht, hq, hk, hd⟩ := h
  refine ⟨?_, fun t h => ?_, fun k h => ?_, fun p h => ?_, fun p h g => ?_⟩
  · rw [e _ (by omega) (by omega)]; exact hx
  · rw [e _ (by omega) (by omega), e _ (by omega) (by omega), e _ (by omega) (by omega), e _ (by omega) (by omega), e _ (by omega) (by omega)]; exact ht t h
  · rw [e _ (by omega) (by omega)]; exact hq k h
  · rw [e _ (by omega) (by omega)]; exact hk p h
  · rw [e _ (by omega) (by omega), e _ (by omega) (by omega)]; exact hd p h g
section FR
variable {I J : II} {f : TW} {sz lt : Nat} {h : Nat → TW}
theorem AC.fr (a : AC I f sz lt h) (e : ∀ c, (c < 8 ∨ (40 ≤ c ∧ c < 232) ∨ c = 303) → J c = I c) : AC J f sz lt h := by
  obtain ⟨a1, a2, a3, a4, a5⟩ := a
  refine ⟨a1.fr (fun c _ _ => e c (by omega)), by rw [e 303 (by omega)]; exact a2, by rw [e 303 (by omega)]; exact a3, a4, fun i hi => (a5 i hi).fr (fun c _ _ => e c (by omega))⟩
theorem AM.fr (a : AM I f sz h) (hz : sz ≤ 24) (e1 : ∀ k, k < 1225 → J 316 k = I 316 k) (e2 : J 315 1 = I 315 1 ∧ J 315 2 = I 315 2) : AM J f sz h := by
  obtain ⟨a1, a2, a3, a4⟩ := a
  refine ⟨fun q hq => by rw [e1 q (by omega)]; exact a1 q hq, by rw [e2.2]; exact a2, by rw [e2.1]; exact a3, fun i hi q hq => by rw [e1 _ (by omega)]; exact a4 i hi q hq⟩
theorem IMG.fr (a : IMG I) (e : ∀ c, ((24 ≤ c ∧ c < 40) ∨ c = 317) → J c = I c) (e1 : ∀ k, 1225 ≤ k → k < 1323 → J 316 k = I 316 k) (e2 : I 315 1 = nI 1 → J 315 1 = nI 1) : IMG J := by
  intro k hk
  rcases a k hk with ⟨b1, b2⟩ | ⟨b1, b0, g, b2, b3, b4, b5⟩
  · exact Or.inl ⟨by rw [e 317 (by omega)]; exact b1, by rw [e _ (by omega)]; exact b2⟩
  · exact Or.inr ⟨by rw [e 317 (by omega)]; exact b1, e2 b0, g, b2, b3, fun q hq => by rw [e1 _ (by omega) (by omega)]; exact b4 q hq, b5.fr (fun c _ _ => e c (by omega))⟩
theorem ROW.fr (a : ROW I) (e : ∀ c, ((298 ≤ c ∧ c ≤ 300) ∨ (318 ≤ c ∧ c ≤ 320)) → J c = I c) : ROW J := by
  intro r hr
  rw [e 298 (by omega), e 299 (by omega), e 300 (by omega), e 318 (by omega), e 319 (by omega), e 320 (by omega)]
  exact a r hr
theorem TAP.fr (a : TAP I) (e : J 302 = I 302 ∧ J 321 = I 321) (e2 : J 301 2 = I 301 2 ∧ J 315 8 = I 315 8) : TAP J := by
  unfold TAP
  rw [e.1, e.2, e2.1, e2.2]; exact a
theorem MSC.fr (a : MSC I) (e : J 301 5 = I 301 5 ∧ J 315 9 = I 315 9 ∧ J 296 8 = I 296 8 ∧ J 315 10 = I 315 10) : MSC J := by
  unfold MSC
  rw [e.1, e.2.1, e.2.2.1, e.2.2.2]; exact a
theorem ASK.fr (a : ASK I) (e : J 314 = I 314 ∧ J 322 = I 322) (e2 : J 313 1 = I 313 1 ∧ J 315 12 = I 315 12) : ASK J := by
  unfold ASK
  rw [e.1, e.2, e2.1, e2.2]; exact a
theorem ORD.fr (a : ORD I f) (e : J 308 = I 308 ∧ J 311 = I 311) : ORD J f := by
  unfold ORD
  rw [e.1, e.2]; exact a
theorem SHR.fr (a : SHR I f) (e : J 308 = I 308 ∧ J 312 = I 312) : SHR J f := by
  unfold SHR
  rw [e.1, e.2]; exact a
/-- what no call needs to find as it was: draft, ghost, levels, what is told, the reference's tried town and its own numbers -/
def scr (a k : Nat) : Prop := (8 ≤ a ∧ a < 24) ∨ (232 ≤ a ∧ a < 296) ∨ (a = 301 ∧ (k = 3 ∨ k = 4)) ∨ a = 306 ∨ a = 307 ∨ a = 310 ∨ (a = 315 ∧ (k = 13 ∨ k = 14 ∨ k = 15)) ∨ (a = 316 ∧ 1323 ≤ k) ∨ a = 323 ∨ a = 324
theorem INV.fr (v : INV I) (e : ∀ a k, ¬ scr a k → J a k = I a k) : INV J := by
  have ec : ∀ a, (∀ k, ¬ scr a k) → J a = I a := fun a ha => funext fun k => e a k (ha k)
  obtain ⟨f, sz, lt, h, p, c, m, ⟨o1, o2⟩, i, r, t, ms, k⟩ := v
  refine ⟨f, sz, lt, h, p, c.fr (fun q hq => ec q (fun k z => by unfold scr at z; omega)), m.fr p.2.2.1 (fun k hk => e 316 k (fun z => by unfold scr at z; omega)) ⟨e _ _ (fun z => by unfold scr at z; omega), e _ _ (fun z => by unfold scr at z; omega)⟩, ⟨o1.fr ⟨?_, ?_⟩, o2.fr ⟨?_, ?_⟩⟩, i.fr (fun q hq => ec q (fun k z => by unfold scr at z; omega)) (fun k h1 h2 => e 316 k (fun z => by unfold scr at z; omega)) (fun z => by rw [e 315 1 (fun z => by unfold scr at z; omega)]; exact z), r.fr (fun q hq => ec q (fun k z => by unfold scr at z; omega)), t.fr ⟨?_, ?_⟩ ⟨?_, ?_⟩, ms.fr ⟨?_, ?_, ?_, ?_⟩, k.fr ⟨?_, ?_⟩ ⟨?_, ?_⟩⟩
  all_goals first | exact ec _ (fun k z => by unfold scr at z; omega) | exact e _ _ (fun z => by unfold scr at z; omega)
end FR

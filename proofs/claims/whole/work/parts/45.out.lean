/-! ===== some are left out ===== -/
def qL (f : TW) : List Nat := (List.range' 0 (tw f)).map (tq f)
def loT (f : TW) (l : List Nat) : TW := upd (setQ f l) 7 (nI l.length)
def kR (f : TW) (b : Nat → Bool) : Nat → Nat → List Nat
  | 0, _ => []
  | d + 1, i => if b i then kR f b d (i + 1) else tq f i :: kR f b d (i + 1)
section LOT
variable {s : Prop} {I : II} {f : TW} {l : List Nat}
theorem loT_at (f : TW) (l : List Nat) (q : Nat) : loT f l q = if q = 7 then nI l.length else if 8 ≤ q ∧ q < 8 + l.length then nI (l.getD (q - 8) 0) else f q := by
  simp only [loT, upd, setQ]
theorem loT_n (f : TW) (l : List Nat) : tn (loT f l) = tn f := by rw [tn, loT_at, if_neg (by omega), if_neg (by omega)]; rfl
theorem loT_w (h : l.length ≤ 7) : tw (loT f l) = l.length := by rw [tw, loT_at, if_pos rfl, nI_clamp (by omega)]
theorem loT_out (h : l.length ≤ 7) {q : Nat} (hq : q < 7 ∨ 15 ≤ q) : loT f l q = f q := by rw [loT_at, if_neg (by omega), if_neg (by omega)]
theorem loT_q {k : Nat} (hk : k < l.length) : loT f l (8 + k) = nI (l.getD k 0) := by
  rw [loT_at, if_neg (by omega), if_pos (by omega), Nat.add_sub_cancel_left]
theorem qL_len (f : TW) : (qL f).length = tw f := by simp [qL]
theorem qL_get {k : Nat} (hk : k < tw f) : (qL f).getD k 0 = tq f k := by
  rw [List.getD_eq_getElem?_getD, List.getElem?_eq_getElem (by rw [qL_len]; exact hk)]
  simp [qL]
theorem loT_qL (hf : WF f) : loT f (qL f) = f := by
  funext q
  rw [loT_at, qL_len]
  by_cases e : q = 7
  · rw [if_pos e, e]; exact hf.w.1.symm
  · rw [if_neg e]
    by_cases c : 8 ≤ q ∧ q < 8 + tw f
    · obtain ⟨k, rfl⟩ : ∃ k, q = 8 + k := ⟨q - 8, by omega⟩
      rw [if_pos c, Nat.add_sub_cancel_left, qL_get (by omega)]
      exact (hf.q (by omega)).1.symm
    · rw [if_neg c]
theorem isLv_lo {pl : Nat} (h7 : l.length ≤ 7) (hp : pl < l.length) : isLv (loT f l) pl (loT f (l.eraseIdx pl)) := by
  have el : (l.eraseIdx pl).length = l.length - 1 := by rw [List.length_eraseIdx, if_pos hp]
  refine ⟨fun q hq => ?_, ?_, fun i hi => ?_⟩
  · rw [loT_out (by omega) hq, loT_out h7 hq]
  · rw [loT_at, if_pos rfl, loT_w h7, el]
  · rw [loT_w h7] at hi
    rw [loT_q (by omega), List.getD_eq_getElem?_getD, List.getElem?_eraseIdx]
    by_cases c : i < pl
    · rw [if_pos c, if_pos c, loT_q (by omega), List.getD_eq_getElem?_getD]
    · rw [if_neg c, if_neg c, loT_q (by omega), List.getD_eq_getElem?_getD]
theorem setQ_nil (f : TW) : setQ f [] = f := by
  funext q
  simp only [setQ, List.length_nil]
  rw [if_neg (by omega)]
theorem setQ_snoc (f : TW) (l : List Nat) (p : Nat) : setQ f (l ++ [p]) = upd (setQ f l) (8 + l.length) (nI p) := by
  funext q
  simp only [setQ, upd, List.length_append, List.length_singleton]
  by_cases e : q = 8 + l.length
  · rw [if_pos e, if_pos (by omega), e, Nat.add_sub_cancel_left, List.getD_eq_getElem?_getD, List.getElem?_append_right (Nat.le_refl _)]
    simp
  · rw [if_neg e]
    by_cases c : 8 ≤ q ∧ q < 8 + l.length
    · rw [if_pos c, if_pos (by omega), List.getD_eq_getElem?_getD, List.getD_eq_getElem?_getD, List.getElem?_append_left (by omega)]
    · rw [if_neg c, if_neg (by omega)]
theorem kR_len (f : TW) (b : Nat → Bool) : ∀ d i, (kR f b d i).length ≤ d := by
  intro d
  induction d with
  | zero => intro i; exact Nat.le_refl _
  | succ d ih =>
    intro i
    rw [kR]
    have := ih (i + 1)
    split
    · omega
    · simp only [List.length_cons]; omega
theorem kR_sub (f : TW) (b : Nat → Bool) : ∀ d i, (kR f b d i).Sublist ((List.range' i d).map (tq f)) := by
  intro d
  induction d with
  | zero => intro i; exact List.Sublist.slnil
  | succ d ih =>
    intro i
    rw [kR, List.range'_succ, List.map_cons]
    split
    · exact (ih (i + 1)).cons _
    · exact (ih (i + 1)).cons_cons _
theorem qL_nodup (hf : WF f) : ∀ d i, i + d ≤ tw f → ((List.range' i d).map (tq f)).Nodup := by
  intro d
  induction d with
  | zero => intro i _; exact List.nodup_nil
  | succ d ih =>
    intro i hi
    rw [List.range'_succ, List.map_cons, List.nodup_cons]
    refine ⟨fun h => ?_, ih (i + 1) (by omega)⟩
    obtain ⟨k, hk, e⟩ := List.mem_map.mp h
    rw [List.mem_range'_1] at hk
    have := hf.dist (by omega) (by omega) e
    omega
theorem WF.lo (hf : WF f) (h : l.Sublist (qL f)) : WF (loT f l) := by
  have n4 := hf.n.2
  have w7 := hf.w.2
  have hl : l.length ≤ tw f := by have := h.length_le; rwa [qL_len] at this
  have h7 : l.length ≤ 7 := by omega
  have nd : l.Nodup := h.nodup (qL_nodup hf (tw f) 0 (by omega))
  have mem : ∀ k, k < l.length → ∃ i, i < tw f ∧ tq f i = l.getD k 0 := fun k hk => by
    have : l.getD k 0 ∈ l := by
      rw [List.getD_eq_getElem?_getD, List.getElem?_eq_getElem hk]
      exact List.getElem_mem hk
    obtain ⟨i, hi, e⟩ := List.mem_map.mp (h.subset this)
    rw [List.mem_range'_1] at hi
    exact ⟨i, by omega, e⟩
  have hq : ∀ k, k < l.length → tq (loT f l) k = l.getD k 0 := fun k hk => by
    obtain ⟨i, hi, e⟩ := mem k hk
    have := (hf.q hi).2
    rw [tq, loT_q hk, nI_clamp (by omega)]
  refine ⟨⟨?_, ?_⟩, ⟨?_, ?_⟩, fun k hk => ?_, fun i k hi hk e => ?_, fun q hq => ?_, fun k hk => ?_, fun q hq hk => ?_, fun t ht => ?_, fun h0 => ?_⟩
  · rw [loT_n, loT_out h7 (by omega)]; exact hf.n.1
  · rw [loT_n]; exact n4
  · rw [loT_w h7, loT_at, if_pos rfl]
  · rw [loT_w h7]; exact h7
  · rw [loT_w h7] at hk
    obtain ⟨i, hi, e⟩ := mem k hk
    rw [hq k hk, loT_q hk, ← e]
    exact ⟨rfl, (hf.q hi).2⟩
  · rw [loT_w h7] at hi hk
    rw [hq i hi, hq k hk] at e
    have pw := List.pairwise_iff_getElem.mp nd
    have g : ∀ k (hk : k < l.length), l.getD k 0 = l[k] := fun k hk => by rw [List.getD_eq_getElem?_getD, List.getElem?_eq_getElem hk]; rfl
    rw [g i hi, g k hk] at e
    rcases Nat.lt_trichotomy i k with c | c | c
    · exact absurd e (pw i k hi hk c)
    · exact c
    · exact absurd e.symm (pw k i hk hi c)
  · rw [loT_out h7 (by omega)]; exact hf.dr hq
  · rw [loT_w h7] at hk
    obtain ⟨i, hi, e⟩ := mem k hk
    have := (hf.q hi).2
    rw [hq k hk, ← e, loT_out h7 (by omega)]; exact hf.kn hi
  · rw [loT_out h7 (by omega)] at hk
    rw [loT_out h7 (by omega)]; exact hf.sm hq hk
  · rw [loT_n] at ht
    rw [loT_out h7 (by omega), loT_out h7 (by omega), loT_out h7 (by omega), loT_out h7 (by omega)]; exact hf.te ht
  · rw [loT_n] at h0
    rw [loT_out h7 (by omega), loT_out h7 (by omega)]; exact hf.wk h0
theorem m_lo_loop {Q : II → Prop} {k : Int32 → II → Prop} {x : Int32} {tot : List Nat} (hf : WF f) (hI : TNW I f) (ht7 : tot.length ≤ 7) (hk : k (nI tot.length) (pT I 1323 (setQ f tot))) : ∀ (d i : Nat) (l : List Nat), i + d = tw f → l.length ≤ i → l ++ kR f (fun k => hasB x (nI (tq f k))) d i = tot → ∃ N, wp_X8_leaveOut_9 Q k N x (nI l.length) (nI i) (pT I 1323 (setQ f l)) := by
  have hw := hf.w
  have e7 : ∀ g, pT I 1323 g 316 7 = nI (tw f) := fun g => by rw [(hI.pT g).1 7 (by omega), hw.1]
  have g7 : 7 < 1372 := by omega
  intro d
  induction d with
  | zero =>
    intro i l hi hl ht
    refine ⟨1, ?_⟩
    rw [wp_X8_leaveOut_9.eq_2]
    have c : tw f ≤ i := by omega
    rw [kR, List.append_nil] at ht
    subst ht
    simp (disch := omega) only [nIvp, nIcl, g7, e7, nIle, c, Bool.true_eq_false, Bool.false_eq_true, false_implies, true_implies, not_true_eq_false, not_false_eq_true, and_true, true_and]
    exact hk
  | succ d ih =>
    intro i l hi hl ht
    have c : ¬ tw f ≤ i := by omega
    have q7 := hf.q (k := i) (by omega)
    have e8 : ∀ g, pT I 1323 g 316 (8 + i) = nI (tq f i) := fun g => by rw [(hI.pT g).1 (8 + i) (by omega), q7.1]
    have g8 : 8 + i < 1372 := by omega
    have g9 : 1331 + l.length < 1372 := by omega
    have ex : su (pT I 1323 (setQ f l)) 316 (1331 + l.length) (nI (tq f i)) = pT I 1323 (setQ f (l ++ [tq f i])) := by
      rw [show 1331 + l.length = 1323 + (8 + l.length) by omega, pT_set (by omega), setQ_snoc]
    rw [kR] at ht
    cases hb : hasB x (nI (tq f i)) with
    | true =>
      rw [if_pos hb] at ht
      obtain ⟨N, hN⟩ := ih (i + 1) l (by omega) (by omega) ht
      refine ⟨N + 1, ?_⟩
      rw [wp_X8_leaveOut_9.eq_2]
      simp (disch := omega) only [nIvp, nIcl, g7, e7, nIle, c, Bool.true_eq_false, Bool.false_eq_true, false_implies, true_implies, not_true_eq_false, not_false_eq_true, and_true, true_and, nI_add, g8, e8, m_has, hb, i1_0, wp_X8_leaveOut_58]
      exact hN
    | false =>
      rw [if_neg (by rw [hb]; decide)] at ht
      obtain ⟨N, hN⟩ := ih (i + 1) (l ++ [tq f i]) (by omega) (by rw [List.length_append, List.length_singleton]; omega) (by rw [List.append_assoc]; exact ht)
      rw [List.length_append, List.length_singleton] at hN
      refine ⟨N + 1, ?_⟩
      rw [wp_X8_leaveOut_9.eq_2]
      simp (disch := omega) only [nIvp, nIcl, g7, e7, nIle, c, Bool.true_eq_false, Bool.false_eq_true, false_implies, true_implies, not_true_eq_false, not_false_eq_true, and_true, true_and, nI_add, g8, g9, e8, m_has, hb, i1_0, wp_X8_leaveOut_58, forall_eq, ex]
      exact hN
theorem m_leaveOut {Q : II → Prop} {x : Int32} (hf : WF f) (hI : TNW I f) (hq : Q (pT I 1323 (loT f (kR f (fun k => hasB x (nI (tq f k))) (tw f) 0)))) : wp_X8_leaveOut x I Q := by
  have w7 := hf.w.2
  unfold wp_X8_leaveOut
  refine m_layTried hf hI.1 (by omega) ?_
  have e0 : itF f 0 = setQ f [] := (setQ_nil f).symm
  rw [e0]
  have hl := kR_len f (fun k => hasB x (nI (tq f k))) (tw f) 0
  have g30 : 1330 < 1372 := by omega
  refine m_lo_loop (tot := kR f (fun k => hasB x (nI (tq f k))) (tw f) 0) hf hI (by omega) ?_ (tw f) 0 [] (by omega) (Nat.le_refl _) rfl
  have ex : ∀ l : List Nat, su (pT I 1323 (setQ f l)) 316 1330 (nI l.length) = pT I 1323 (loT f l) := fun l => by
    rw [show 1330 = 1323 + 7 by omega, pT_set (by omega)]; rfl
  simp (disch := omega) only [nIvp, nIcl, g30, forall_eq, ex, Bool.true_eq_false, Bool.false_eq_true, false_implies, true_implies, not_true_eq_false, not_false_eq_true, and_true, true_and]
  exact hq
theorem kR_congr {b c : Nat → Bool} : ∀ d i, (∀ k, i ≤ k → k < i + d → b k = c k) → kR f b d i = kR f c d i := by
  intro d
  induction d with
  | zero => intro i _; rfl
  | succ d ih =>
    intro i h
    rw [kR, kR, h i (by omega) (by omega), ih (i + 1) (fun k h1 h2 => h k (by omega) (by omega))]
theorem kR_all (f : TW) : ∀ d i, kR f (fun _ => false) d i = (List.range' i d).map (tq f) := by
  intro d
  induction d with
  | zero => intro i; rfl
  | succ d ih => intro i; rw [kR, if_neg (by decide), ih, List.range'_succ, List.map_cons]
theorem kR_one (f : TW) : ∀ d i p, i ≤ p → p < i + d → kR f (fun k => decide (k = p)) d i = ((List.range' i d).map (tq f)).eraseIdx (p - i) := by
  intro d
  induction d with
  | zero => intro i p h1 h2; omega
  | succ d ih =>
    intro i p h1 h2
    rw [kR, List.range'_succ, List.map_cons]
    by_cases e : i = p
    · subst e
      rw [if_pos (by simp), Nat.sub_self, List.eraseIdx_cons_zero, ← kR_all f d (i + 1)]
      exact kR_congr d (i + 1) (fun k a b => decide_eq_false (by omega))
    · rw [if_neg (by simpa using e), ih (i + 1) p (by omega) (by omega), show p - i = (p - (i + 1)) + 1 by omega, List.eraseIdx_cons_succ]
end LOT

/-! ===== the reference tries all lines ===== -/
theorem nd_lt {l : List Nat} (h : l.Pairwise (· < ·)) : l.Nodup := h.imp (fun hab => Nat.ne_of_lt hab)
theorem srt_pw (f : TW) : (srt f).Pairwise (· < ·) := (List.pairwise_lt_range (n := 7)).filter _
theorem srt_mem {f : TW} {p : Nat} : p ∈ srt f ↔ p < 7 ∧ inQ f p = true := by
  unfold srt; rw [List.mem_filter, List.mem_range]
theorem inQ_t {f : TW} {p : Nat} : inQ f p = true ↔ ∃ k, k < tw f ∧ tq f k = p := by
  unfold inQ
  rw [List.any_eq_true]
  constructor
  · intro ⟨k, hk, e⟩; exact ⟨k, List.mem_range.mp hk, by simpa using e⟩
  · intro ⟨k, hk, e⟩; exact ⟨k, List.mem_range.mpr hk, by simpa using e⟩
theorem qL_mem {f : TW} {p : Nat} : p ∈ qL f ↔ inQ f p = true := by
  rw [inQ_t, qL, List.mem_map]
  constructor
  · intro ⟨k, hk, e⟩; rw [List.mem_range'_1] at hk; exact ⟨k, by omega, e⟩
  · intro ⟨k, hk, e⟩; exact ⟨k, by rw [List.mem_range'_1]; omega, e⟩
theorem srt_len {f : TW} (hf : WF f) : (srt f).length = tw f := by
  have hnd : (qL f).Nodup := qL_nodup hf (tw f) 0 (by omega)
  have : (srt f).Perm (qL f) := by
    rw [List.perm_ext_iff_of_nodup (nd_lt (srt_pw f)) hnd]
    intro a
    rw [srt_mem]
    rw [qL_mem]
    constructor
    · exact fun h => h.2
    · intro h
      obtain ⟨k, hk, e⟩ := inQ_t.mp h
      exact ⟨by rw [← e]; exact (hf.q hk).2, h⟩
  rw [this.length_eq, qL_len]
/-- a line that all who wait stand in -/
def LNE (f : TW) (l : List Nat) : Prop := l.length = tw f ∧ l.Nodup ∧ ∀ p, p ∈ l → p < 7 ∧ inQ f p = true
theorem LNE.of {f : TW} (hf : WF f) {l : List Nat} (h : l ∈ prm (tw f) (srt f)) : LNE f l := by
  obtain ⟨a, b, c⟩ := prm_mem _ _ _ h (srt_len hf) (nd_lt (srt_pw f))
  exact ⟨a, b, fun p hp => srt_mem.mp (c p hp)⟩
theorem setQ_lo {f : TW} (hf : WF f) {l : List Nat} (h : l.length = tw f) : setQ f l = loT f l := by
  funext q
  rw [loT_at]
  simp only [setQ]
  by_cases e : q = 7
  · rw [if_pos e, if_neg (by omega), e, h]; exact hf.w.1
  · rw [if_neg e]
theorem WF.line {f : TW} (hf : WF f) {l : List Nat} (h7 : l.length ≤ tw f) (hn : l.Nodup) (hm : ∀ p, p ∈ l → p < 7 ∧ inQ f p = true) : WF (loT f l) := by
  have n4 := hf.n.2
  have w7 := hf.w.2
  have h7 : l.length ≤ 7 := by omega
  have gm : ∀ k, k < l.length → l.getD k 0 ∈ l := fun k hk => by
    rw [List.getD_eq_getElem?_getD, List.getElem?_eq_getElem hk]; exact List.getElem_mem hk
  have hq : ∀ k, k < l.length → tq (loT f l) k = l.getD k 0 := fun k hk => by
    have := (hm _ (gm k hk)).1
    rw [tq, loT_q hk, nI_clamp (by omega)]
  refine ⟨⟨?_, ?_⟩, ⟨?_, ?_⟩, fun k hk => ?_, fun i k hi hk e => ?_, fun q hq => ?_, fun k hk => ?_, fun q hq hk => ?_, fun t ht => ?_, fun h0 => ?_⟩
  · rw [loT_n, loT_out h7 (by omega)]; exact hf.n.1
  · rw [loT_n]; exact n4
  · rw [loT_w h7, loT_at, if_pos rfl]
  · rw [loT_w h7]; exact h7
  · rw [loT_w h7] at hk
    rw [hq k hk, loT_q hk]
    exact ⟨rfl, (hm _ (gm k hk)).1⟩
  · rw [loT_w h7] at hi hk
    rw [hq i hi, hq k hk] at e
    rcases Nat.lt_trichotomy i k with c | c | c
    · exact absurd e (pw_get hn c hk)
    · exact c
    · exact absurd e.symm (pw_get hn c hi)
  · rw [loT_out h7 (by omega)]; exact hf.dr hq
  · rw [loT_w h7] at hk
    obtain ⟨i, hi, e⟩ := inQ_t.mp (hm _ (gm k hk)).2
    have := (hf.q hi).2
    rw [hq k hk, ← e, loT_out h7 (by omega)]; exact hf.kn hi
  · rw [loT_out h7 (by omega)] at hk
    rw [loT_out h7 (by omega)]; exact hf.sm hq hk
  · rw [loT_n] at ht
    rw [loT_out h7 (by omega), loT_out h7 (by omega), loT_out h7 (by omega), loT_out h7 (by omega)]; exact hf.te ht
  · rw [loT_n] at h0
    rw [loT_out h7 (by omega), loT_out h7 (by omega)]; exact hf.wk h0
section MORD
variable {I : II} {f : TW}
theorem LN.snoc {l : List Nat} (h : LN I l) (p : Nat) : LN (su I 323 l.length (nI p)) (l ++ [p]) := by
  intro q hq
  rw [List.length_append, List.length_singleton] at hq
  rw [List.getD_eq_getElem?_getD]
  by_cases e : q = l.length
  · rw [e, su_eq, List.getElem?_append_right (Nat.le_refl _)]; simp
  · rw [su_slot e, List.getElem?_append_left (by omega), ← List.getD_eq_getElem?_getD]; exact h q (by omega)
theorem m_ll_loop {Q k : II → Prop} (hf : WF f) (hk : ∀ J, LN J (srt f) → FRA I J → k J) : ∀ (d p : Nat) (J : II), p + d = 7 → LN J ((List.range p).filter (inQ f)) → FRA I J → TNW J f → wp_X8_layLine_4 Q k (d + 1) (nI ((List.range p).filter (inQ f)).length) (nI p) J := by
  intro d
  induction d with
  | zero =>
    intro p J hp hl ho hj
    rw [wp_X8_layLine_4.eq_2]
    have c : 7 ≤ p := by omega
    have e : p = 7 := by omega
    subst e
    simp (disch := omega) only [nIle, c, Bool.true_eq_false, Bool.false_eq_true, false_implies, true_implies, not_true_eq_false, not_false_eq_true, and_true, true_and]
    exact hk J hl ho
  | succ d ih =>
    intro p J hp hl ho hj
    rw [wp_X8_layLine_4.eq_2]
    have c : ¬ 7 ≤ p := by omega
    simp (disch := omega) only [nIle, c, Bool.true_eq_false, Bool.false_eq_true, false_implies, true_implies, not_true_eq_false, not_false_eq_true, and_true, true_and, wp_X8_layLine_29, nI_add]
    have hs : (List.range (p + 1)).filter (inQ f) = (List.range p).filter (inQ f) ++ (if inQ f p then [p] else []) := by
      rw [List.range_succ, List.filter_append]
      congr 1
      cases e : inQ f p <;> simp [e]
    have hlen : ((List.range p).filter (inQ f)).length ≤ p := by
      have := List.length_filter_le (inQ f) (List.range p)
      rwa [List.length_range] at this
    refine m_wait0 hf hj (by omega) ?_
    refine gd (fun e => ?_) (fun e => ?_)
    · rw [e, if_neg (by decide), List.append_nil] at hs
      rw [← hs]
      exact ih (p + 1) J (by omega) (by rw [hs]; exact hl) ho hj
    · rw [e, if_pos rfl] at hs
      have h7 : ((List.range p).filter (inQ f)).length < 7 := by omega
      have fr : FRA J (su J 323 ((List.range p).filter (inQ f)).length (nI p)) := (FRA.rf J).suR (by unfold scr; omega)
      simp (disch := omega) only [nIvp, nIcl, h7, Bool.true_eq_false, Bool.false_eq_true, false_implies, true_implies, not_true_eq_false, not_false_eq_true, and_true, true_and, forall_eq]
      have key := ih (p + 1) _ (by omega) (by rw [hs]; exact hl.snoc p) (ho.tr fr) (hj.fr fr)
      rw [hs, List.length_append, List.length_singleton] at key
      exact key
theorem m_layLine {Q : II → Prop} (hf : WF f) (hj : TNW I f) (hq : ∀ J, LN J (srt f) → FRA I J → Q J) : wp_X8_layLine I Q := by
  unfold wp_X8_layLine
  exact ⟨_, m_ll_loop (k := fun I => Q I) hf hq 7 0 I (by omega) (fun i hi => absurd hi (by simp)) (FRA.rf I) hj⟩
theorem m_52_loop {Q : Int32 → II → Prop} {k : Int32 → Int32 → Int32 → Int32 → II → Prop} {x1 x3 x4 : Int32} {l : List Nat} (hl : LN I l) (h7 : l.length ≤ 7) (hk : k x1 (nI l.length) x3 x4 (pT I 1323 (setQ f l))) : ∀ (d i : Nat), i + d = l.length → ∃ N, wp_X8_order_52 Q k N x1 (nI l.length) x3 x4 (nI i) (pT I 1323 (setQ f (l.take i))) := by
  intro d
  induction d with
  | zero =>
    intro i hi
    refine ⟨1, ?_⟩
    rw [wp_X8_order_52.eq_2]
    have c : l.length ≤ i := by omega
    simp (disch := omega) only [nIle, c, Bool.true_eq_false, Bool.false_eq_true, false_implies, true_implies, not_true_eq_false, not_false_eq_true, and_true, true_and]
    rw [List.take_of_length_le c]; exact hk
  | succ d ih =>
    intro i hi
    obtain ⟨N, hN⟩ := ih (i + 1) (by omega)
    refine ⟨N + 1, ?_⟩
    rw [wp_X8_order_52.eq_2]
    have c : ¬ l.length ≤ i := by omega
    have i7 : i < 7 := by omega
    have g : 1331 + i < 1372 := by omega
    have e1 : pT I 1323 (setQ f (l.take i)) 323 i = nI (l.getD i 0) := by rw [pT_oth (by omega)]; exact hl i (by omega)
    have e2 : su (pT I 1323 (setQ f (l.take i))) 316 (1331 + i) (nI (l.getD i 0)) = pT I 1323 (setQ f (l.take (i + 1))) := by
      have hlt : (l.take i).length = i := by rw [List.length_take]; omega
      have ht : l.take (i + 1) = l.take i ++ [l.getD i 0] := by
        rw [List.take_succ_eq_append_getElem (by omega), List.getD_eq_getElem?_getD, List.getElem?_eq_getElem (by omega)]; rfl
      rw [show 1331 + i = 1323 + (8 + i) by omega, pT_set (by omega), ht, setQ_snoc, hlt]
    simp (disch := omega) only [nIle, c, Bool.true_eq_false, Bool.false_eq_true, false_implies, true_implies, not_true_eq_false, not_false_eq_true, and_true, true_and, nIvp, nIcl, i7, nI_add, g, e1, forall_eq, e2]
    exact hN
theorem m_145_loop {Q : Int32 → II → Prop} {k : Int32 → Int32 → Int32 → Int32 → II → Prop} {x1 x3 x4 : Int32} {l : List Nat} (h7 : l.length ≤ 7) (hk : ∀ J, (∀ a, a ≠ 324 → J a = I a) → (∀ i, i < l.length → J 324 i = nI (l.getD i 0)) → k x1 (nI l.length) x3 x4 J) (hl : LN I l) : ∀ (d i : Nat) (J : II), i + d = l.length → (∀ a, a ≠ 324 → J a = I a) → (∀ q, q < i → J 324 q = nI (l.getD q 0)) → wp_X8_order_145 Q k (d + 1) x1 (nI l.length) x3 x4 (nI i) J := by
  intro d
  induction d with
  | zero =>
    intro i J hi h1 h2
    rw [wp_X8_order_145.eq_2]
    have c : l.length ≤ i := by omega
    simp (disch := omega) only [nIle, c, Bool.true_eq_false, Bool.false_eq_true, false_implies, true_implies, not_true_eq_false, not_false_eq_true, and_true, true_and]
    exact hk J h1 (fun q hq => h2 q (by omega))
  | succ d ih =>
    intro i J hi h1 h2
    rw [wp_X8_order_145.eq_2]
    have c : ¬ l.length ≤ i := by omega
    have i7 : i < 7 := by omega
    have e1 : J 323 i = nI (l.getD i 0) := by rw [h1 323 (by omega)]; exact hl i (by omega)
    simp (disch := omega) only [nIle, c, Bool.true_eq_false, Bool.false_eq_true, false_implies, true_implies, not_true_eq_false, not_false_eq_true, and_true, true_and, nIvp, nIcl, i7, nI_add, e1, forall_eq]
    refine ih (i + 1) _ (by omega) (fun a ha => by rw [su_cell ha]; exact h1 a ha) (fun q hq => ?_)
    by_cases e : q = i
    · subst e; rw [su_eq]
    · rw [su_slot e]; exact h2 q (by omega)
/-- what the reference has found so far -/
def MB (J : II) (f : TW) (b : Int32 × Int32 × List Nat) : Prop := b.1 = -nI 1 ∨ ∀ i, i < tw f → J 324 i = nI (b.2.2.getD i 0)
theorem evP_n {l : List Nat} (hf : WF f) (h : LNE f l) : ∀ d t, t + d ≤ tw f → ∃ n, n ≤ d ∧ itF (setQ f l) (t + d) 4 = itF (setQ f l) t 4 + nI n := by
  have wg : WF (setQ f l) := by rw [setQ_lo hf h.1]; exact hf.line (by rw [h.1]; exact Nat.le_refl _) h.2.1 h.2.2
  have ww : tw (setQ f l) = tw f := by rw [setQ_lo hf h.1, loT_w (by rw [h.1]; exact hf.w.2), h.1]
  intro d
  induction d with
  | zero => intro t _; exact ⟨0, Nat.le_refl _, by rw [nI_0, Int32.add_zero]; rfl⟩
  | succ d ih =>
    intro t ht
    obtain ⟨n, hn, e⟩ := ih (t + 1) (by omega)
    have p4 := passF4 (itF_wf wg t) (by rw [itF_w wg, ww]; omega)
    rw [show t + (d + 1) = t + 1 + d by omega, e, itF, p4]
    split
    · exact ⟨n, by omega, by rw [nI_0, Int32.add_zero]⟩
    · exact ⟨1 + n, by omega, by rw [Int32.add_assoc, nI_add]⟩
theorem evP_nI {l : List Nat} (hf : WF f) (h : LNE f l) : ∃ n, n ≤ 7 ∧ evP f l = nI n := by
  have w7 := hf.w.2
  obtain ⟨n, hn, e⟩ := evP_n hf h (tw f) 0 (by omega)
  rw [Nat.zero_add] at e
  refine ⟨n, by omega, ?_⟩
  unfold evP
  have e0 : itF (setQ f l) 0 4 = f 4 := by
    show setQ f l 4 = f 4
    simp only [setQ]; rw [if_neg (by omega)]
  rw [e, e0, Int32.add_comm, Int32.add_sub_cancel]
theorem bO_first {b : Int32 × Int32 × List Nat} {l : List Nat} (hf : WF f) (h : LNE f l) : (bO f b l).1 ≠ -nI 1 := by
  obtain ⟨n, hn, e⟩ := evP_nI hf h
  have hne : ¬ nI n = -nI 1 := by rw [nIneg (by omega) (by omega) (by omega)]; exact not_false
  unfold bO
  split
  · rw [e]; exact hne
  · rename_i c
    intro z
    apply c
    left
    rw [z, e]
    have : (-nI 1 : Int32) < nI n := neg_lt (by decide) (by omega)
    exact this
theorem m_39_step {Q : Int32 → II → Prop} {k : Int32 → Int32 → Int32 → Int32 → II → Prop} {x1 : Int32} {a : List Nat} {b : Int32 × Int32 × List Nat} {N : Nat} (hf : WF f) (h : LNE f a) (hl : LN I a) (hb : MB I f b) (hj : TNW I f) (hq : ∀ K, FRA I K → LN K a → MB K f (bO f b a) → wp_X8_nextLine K (fun r2 I1 => wp_X8_order_39 Q k N x1 (nI (tw f)) (bO f b a).1 (bO f b a).2.1 r2 I1)) : wp_X8_order_39 Q k (N + 1) x1 (nI (tw f)) b.1 b.2.1 (nI 1) I := by
  have hn := hf.n
  have hw := hf.w
  have wg : WF (setQ f a) := by rw [setQ_lo hf h.1]; exact hf.line (by rw [h.1]; exact Nat.le_refl _) h.2.1 h.2.2
  have en : tn (setQ f a) = tn f := by rw [setQ_lo hf h.1, loT_n]
  rw [wp_X8_order_39.eq_2]
  have n1 : ¬ (nI 1 : Int32) = 0 := by decide
  simp only [n1, Bool.true_eq_false, Bool.false_eq_true, false_implies, true_implies, not_true_eq_false, not_false_eq_true, and_true, true_and]
  refine m_layTried hf hj.1 (by omega) ?_
  have e0 : itF f 0 = setQ f (a.take 0) := (setQ_nil f).symm
  rw [e0, ← h.1]
  refine m_52_loop hl (by rw [h.1]; exact hw.2) ?_ a.length 0 (by omega)
  rw [h.1]
  refine m_passes (by omega) wg (by omega) ?_
  generalize hK : pT I 1323 (itF (setQ f a) (tw f)) = K0
  have fr : FRA I K0 := by rw [← hK]; exact FRA.pT _ _
  have tk : TNW K0 f := hj.fr fr
  have e4 : K0 316 4 = f 4 := tk.1 4 (by omega)
  have e27 : K0 316 1327 = itF (setQ f a) (tw f) 4 := by rw [← hK, show 1327 = 1323 + 4 by omega, pT_get (by omega)]
  have lk : LN K0 a := fun i hi => by rw [← hK, pT_oth (by omega)]; exact hl i hi
  have k324 : K0 324 = I 324 := by rw [← hK, pT_oth (by omega)]
  have g27 : 1327 < 1372 := by omega
  have g4 : 4 < 1372 := by omega
  have ee : itF (setQ f a) (tw f) 4 - f 4 = evP f a := rfl
  simp (disch := omega) only [nIvp, nIcl, g27, g4, e4, e27, Bool.true_eq_false, Bool.false_eq_true, false_implies, true_implies, not_true_eq_false, not_false_eq_true, and_true, true_and, ee]
  have la : ∀ Q : Int32 → II → Prop, Q (evL f a) K0 → wp_X8_leftAt (nI 1323) K0 Q := fun Q hQ => by
    rw [← hK] at hQ ⊢
    refine m_leftAt (by omega) (itF_wf wg _) ?_
    rw [itF_n wg, en]; exact hQ
  refine la _ ?_
  have no : ¬ (b.1 < evP f a ∨ (evP f a = b.1 ∧ b.2.1 < evL f a)) → wp_X8_order_171 Q (fun x1 x2 x3 x4 x5 I => wp_X8_order_39 Q k N x1 x2 x3 x4 x5 I) x1 (nI (tw f)) b.1 b.2.1 K0 := fun c => by
    have eb : bO f b a = b := by unfold bO; rw [if_neg c]
    rw [eb] at hq
    refine hq K0 fr lk ?_
    rcases hb with z | z
    · exact Or.inl z
    · exact Or.inr (fun i hi => by rw [k324]; exact z i hi)
  have yes : (b.1 < evP f a ∨ (evP f a = b.1 ∧ b.2.1 < evL f a)) → wp_X8_order_135 Q (fun x1 x2 x3 x4 x5 I => wp_X8_order_39 Q k N x1 x2 x3 x4 x5 I) x1 (nI (tw f)) (evP f a) (evL f a) K0 := fun c => by
    have eb : bO f b a = (evP f a, evL f a, a) := by unfold bO; rw [if_pos c]
    rw [eb] at hq
    unfold wp_X8_order_135
    refine ⟨a.length + 1, ?_⟩
    rw [← h.1]
    refine m_145_loop (I := K0) (by rw [h.1]; exact hw.2) (fun J j1 j2 => ?_) lk a.length 0 K0 (by omega) (fun _ _ => rfl) (fun q hq => absurd hq (by omega))
    rw [h.1]
    refine hq J (fr.tr (fun c s z => ?_)) (fun i hi => by rw [j1 323 (by omega)]; exact lk i hi) (Or.inr (fun i hi => j2 i (by rw [h.1]; exact hi)))
    rw [j1 c (fun e => z (by unfold scr; omega))]
  refine ⟨fun c => yes (Or.inl c), fun c => ⟨fun c2 => no (fun u => by rcases u with u | u; exact c u; exact c2 u.1), fun c2 => ⟨fun c3 => no (fun u => ?_), fun c3 => yes (Or.inr ⟨c2, ?_⟩)⟩⟩⟩
  · rcases u with u | u
    · exact c u
    · rw [i32_le] at c3; exact c3 u.2
  · rw [i32_le, Classical.not_not] at c3; exact c3
theorem m_39_loop {Q : Int32 → II → Prop} {k : Int32 → Int32 → Int32 → Int32 → II → Prop} {x1 : Int32} {r : Int32 × Int32 × List Nat} (hf : WF f) (hk : ∀ J, FRA I J → MB J f r → k x1 (nI (tw f)) r.1 r.2.1 J) : ∀ (L : List (List Nat)) (a : List Nat) (b : Int32 × Int32 × List Nat) (J : II), ChI (a :: L) → (∃ M t, a :: L = M ++ [t] ∧ EN t) → (∀ l, l ∈ a :: L → LNE f l) → (a :: L).foldl (bO f) b = r → LN J a → MB J f b → FRA I J → TNW J f → wp_X8_order_39 Q k (L.length + 2) x1 (nI (tw f)) b.1 b.2.1 (nI 1) J := by
  have hw := hf.w
  intro L
  induction L with
  | nil =>
    intro a b J hc he hm hr hl hb ho hj
    have ha := hm a (by simp)
    refine m_39_step hf ha hl hb hj (fun K k1 k2 k3 => ?_)
    obtain ⟨M, t, e1, e2⟩ := he
    have et : t = a := by
      cases M with
      | nil => simpa using e1.symm
      | cons u M => simp at e1
    subst et
    refine m_next_none k2 (by rw [ha.1]; exact hw.2) (fun p hp => (ha.2.2 p hp).1) (by rw [(hj.fr k1).1 7 (by omega), ha.1, hw.1]) e2 ?_
    show wp_X8_order_39 Q k 1 _ _ _ _ _ _
    rw [wp_X8_order_39.eq_2]
    have hr : bO f b t = r := hr
    rw [hr] at k3 ⊢
    exact ⟨fun _ => hk K (ho.tr k1) k3, fun z => absurd nI_0 z⟩
  | cons c L ih =>
    intro a b J hc he hm hr hl hb ho hj
    have ha := hm a (by simp)
    refine m_39_step (N := L.length + 2) hf ha hl hb hj (fun K k1 k2 k3 => ?_)
    refine m_next_some k2 (by rw [ha.1]; exact hw.2) (fun p hp => (ha.2.2 p hp).1) (by rw [(hj.fr k1).1 7 (by omega), ha.1, hw.1]) hc.1 (fun K2 g1 g2 => ?_)
    have fr2 : FRA K K2 := fun x s z => by rw [g2 x (fun e => z (by unfold scr; omega))]
    obtain ⟨M, t, e1, e2⟩ := he
    refine ih c (bO f b a) K2 hc.2 ?_ (fun l hl => hm l (List.mem_cons_of_mem _ hl)) hr g1 ?_ ((ho.tr k1).tr fr2) ((hj.fr k1).fr fr2)
    · cases M with
      | nil => simp at e1
      | cons u M => exact ⟨M, t, (List.cons.inj e1).2, e2⟩
    · rcases k3 with z | z
      · exact Or.inl z
      · exact Or.inr (fun i hi => by rw [g2 324 (by omega)]; exact z i hi)
end MORD

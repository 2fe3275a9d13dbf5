/-! ===== a line served, the queue aside ===== -/
def EQO (g h : TW) : Prop := ∀ q, (q < 7 ∨ 15 ≤ q) → g q = h q
def stT (g : TW) (p : Nat) : TW := finT (serveT g p)
def csT (f : TW) (l : List Nat) : TW := l.foldl stT f
theorem EQO.rf (g : TW) : EQO g g := fun _ _ => rfl
theorem EQO.tr {f g h : TW} (a : EQO f g) (b : EQO g h) : EQO f h := fun q hq => (a q hq).trans (b q hq)
theorem EQO.sy {f g : TW} (a : EQO f g) : EQO g f := fun q hq => (a q hq).symm
section CRS
variable {f g h : TW}
theorem EQO.n (e : EQO g h) : tn g = tn h := by rw [tn, tn, e 0 (by omega)]
theorem EQO.up (e : EQO g h) (k : Nat) {v w : Int32} (hv : v = w) : EQO (upd g k v) (upd h k w) := fun q hq => by
  simp only [upd]
  split
  · exact hv
  · exact e q hq
theorem EQO.cost (e : EQO g h) (t : Nat) (x : Int32) : costT g t x = costT h t x := by
  rw [costT, costT, cA, cA, e _ (by omega), e _ (by omega)]
theorem EQO.lf (e : EQO g h) (t p : Nat) : lfT g t p = lfT h t p := by
  rw [lfT, lfT, gvT, gvT, e.cost, e (22 + p) (by omega), e (15 + p) (by omega), e (41 + t) (by omega)]
theorem EQO.serve (e : EQO g h) (p : Nat) : EQO (serveT g p) (serveT h p) := by
  have ew := wT_congr e p (tn g)
  rw [serveT, serveT, ← e.n, ew, e 5 (by omega), e 4 (by omega), e (45 + (wT h p (tn g)).toNatClampNeg) (by omega)]
  split
  · exact e.up 5 rfl
  · exact ((e.up _ (e.lf _ p)).up 4 rfl).up _ rfl
theorem EQO.wk (e : EQO g h) : ∀ n, EQO (wkT g n) (wkT h n) := by
  intro n
  induction n with
  | zero => exact e
  | succ n ih =>
    rw [wkT, wkT]
    refine ih.up _ ?_
    rw [ih (41 + n) (by omega), ih (29 + n) (by omega), ih (33 + n) (by omega)]
theorem EQO.fin (e : EQO g h) : EQO (finT g) (finT h) := by
  rw [finT, finT, ← e.n, e 3 (by omega)]
  split
  · exact e.up 3 rfl
  · rw [endT, endT, e 3 (by omega), e 2 (by omega)]
    split
    · exact (e.up 3 rfl).wk _
    · exact e.up 3 rfl
theorem EQO.st (e : EQO g h) (p : Nat) : EQO (stT g p) (stT h p) := (e.serve p).fin
theorem EQO.leave (g : TW) (w : Nat) (hw : w ≤ 7) : EQO (leaveT g w) g := fun q hq => by
  rw [leaveT, upd_ne (by omega), mvT_oth _ _ q (by omega)]
theorem pass_st (hg : WF g) (h0 : 0 < tw g) : EQO (passF g) (stT g (tq g 0)) := by
  rw [passF, if_neg (by omega)]
  exact (EQO.leave _ _ hg.w.2).fin
theorem serve_q (hn : tn g ≤ 4) (p : Nat) {q : Nat} (hq : q ≠ 4 ∧ q ≠ 5) (h2 : q < 41) : serveT g p q = g q := by
  rw [serveT]
  rcases wT_in g p (tn g) with e | ⟨t, ht, e⟩
  · rw [if_pos e, upd_ne (by omega)]
  · have eN : ¬ wT g p (tn g) = (-nI 1000000) := by rw [e, nIneg (by omega) (by omega) (by omega)]; exact not_false
    rw [if_neg eN, e, nIcl (by omega), takeT, upd_ne (by omega), upd_ne (by omega), upd_ne (by omega)]
theorem serve_n (hn : tn g ≤ 4) (p : Nat) : tn (serveT g p) = tn g := by rw [tn, serve_q hn p (by omega) (by omega)]; rfl
theorem pass_q (hg : WF g) {k : Nat} (hk : k + 1 < tw g) : tq (passF g) k = tq g (k + 1) := by
  have n4 := hg.n.2
  have w7 := hg.w.2
  rw [tq, passF, if_neg (by omega), finT_oth _ (by rw [tn_sl]; exact n4) (by omega) (by omega), leaveT, upd_ne (by omega), mvT_in _ _ _ (by omega), serve_q n4 _ (by omega) (by omega)]
  rfl
theorem itF_q (hg : WF g) : ∀ t k, t + k < tw g → tq (itF g t) k = tq g (t + k) := by
  intro t
  induction t with
  | zero => intro k _; rw [Nat.zero_add]; rfl
  | succ t ih =>
    intro k hk
    rw [itF, pass_q (itF_wf hg t) (by rw [itF_w hg]; omega), ih (k + 1) (by omega)]
    congr 1; omega
theorem st_q (hn : tn g ≤ 4) (p : Nat) {q : Nat} (hq : q ≠ 3 ∧ q ≠ 4 ∧ q ≠ 5) (h2 : q < 41) : stT g p q = g q := by
  rw [stT, finT_oth _ (by rw [serve_n hn]; exact hn) hq.1 (by omega), serve_q hn p hq.2 h2]
theorem st_n (hn : tn g ≤ 4) (p : Nat) : tn (stT g p) = tn g := by rw [tn, st_q hn p (by omega) (by omega)]; rfl
theorem cs_n (hn : tn f ≤ 4) : ∀ l : List Nat, tn (csT f l) = tn f := by
  intro l
  induction l generalizing f with
  | nil => rfl
  | cons p l ih =>
    show tn (csT (stT f p) l) = tn f
    rw [ih (by rw [st_n hn]; exact hn), st_n hn]
theorem cs_q (hn : tn f ≤ 4) {q : Nat} (hq : q ≠ 3 ∧ q ≠ 4 ∧ q ≠ 5) (h2 : q < 41) : ∀ l : List Nat, csT f l q = f q := by
  intro l
  induction l generalizing f with
  | nil => rfl
  | cons p l ih =>
    show csT (stT f p) l q = f q
    rw [ih (by rw [st_n hn]; exact hn), st_q hn p hq h2]
theorem cs_snoc (l : List Nat) (p : Nat) : csT f (l ++ [p]) = stT (csT f l) p := by
  unfold csT; rw [List.foldl_append]; rfl
theorem cs_wf (hf : WF f) : ∀ l : List Nat, (∀ p, p ∈ l → p < 7 ∧ inQ f p = true) → WF (csT f l) := by
  intro l
  induction l generalizing f with
  | nil => intro _; exact hf
  | cons p l ih =>
    intro h
    have n4 := hf.n.2
    obtain ⟨p7, pq⟩ := h p (by simp)
    obtain ⟨i, hi, e⟩ := inQ_t.mp pq
    have wf1 : WF (stT f p) := (hf.serve p7 (by rw [← e]; exact hf.kn hi)).fin
    refine ih wf1 (fun q hq => ?_)
    obtain ⟨q7, qq⟩ := h q (List.mem_cons_of_mem _ hq)
    refine ⟨q7, ?_⟩
    obtain ⟨j, hj, e2⟩ := inQ_t.mp qq
    have ew : tw (stT f p) = tw f := by rw [tw, st_q n4 p (by omega) (by omega)]; rfl
    have w7 := hf.w.2
    exact inQ_t.mpr ⟨j, by rw [ew]; exact hj, by rw [tq, st_q n4 p (by omega) (by omega)]; exact e2⟩
theorem st_4 (hn : tn g ≤ 4) (p : Nat) : ∃ n, n ≤ 1 ∧ stT g p 4 = g 4 + nI n := by
  rw [stT, finT_oth _ (by rw [serve_n hn]; exact hn) (by omega) (by omega), serveT]
  split
  · exact ⟨0, by omega, by rw [upd_ne (by omega), nI_0, Int32.add_zero]⟩
  · exact ⟨1, by omega, by rw [upd_ne (by omega), upd_eq]⟩
theorem cs_4 (hn : tn g ≤ 4) : ∀ l : List Nat, ∃ n, n ≤ l.length ∧ csT g l 4 = g 4 + nI n := by
  intro l
  induction l generalizing g with
  | nil => exact ⟨0, Nat.le_refl _, by rw [nI_0, Int32.add_zero]; rfl⟩
  | cons p l ih =>
    obtain ⟨a, ha, e1⟩ := st_4 hn p
    obtain ⟨b, hb, e2⟩ := ih (g := stT g p) (by rw [st_n hn]; exact hn)
    refine ⟨a + b, by rw [List.length_cons]; omega, ?_⟩
    show csT (stT g p) l 4 = _
    rw [e2, e1, Int32.add_assoc, nI_add]
theorem it_cs {l : List Nat} (hf : WF f) (hl : LNE f l) : ∀ t, t ≤ tw f → EQO (itF (setQ f l) t) (csT f (l.take t)) := by
  have n4 := hf.n.2
  have w7 := hf.w.2
  have wg : WF (setQ f l) := by rw [setQ_lo hf hl.1]; exact hf.line (by rw [hl.1]; exact Nat.le_refl _) hl.2.1 hl.2.2
  have ww : tw (setQ f l) = tw f := by rw [setQ_lo hf hl.1, loT_w (by rw [hl.1]; exact w7), hl.1]
  intro t
  induction t with
  | zero =>
    intro _
    show EQO (setQ f l) f
    intro q hq
    simp only [setQ]
    rw [if_neg (by rw [hl.1]; omega)]
  | succ t ih =>
    intro ht
    have e1 := ih (by omega)
    have e2 := pass_st (itF_wf wg t) (by rw [itF_w wg, ww]; omega)
    have e3 : tq (itF (setQ f l) t) 0 = l.getD t 0 := by
      have lt : t < l.length := by rw [hl.1]; omega
      have m7 : l.getD t 0 < 7 := getD_lt (fun p hp => (hl.2.2 p hp).1) t
      rw [itF_q wg t 0 (by rw [ww]; omega), Nat.add_zero, setQ_lo hf hl.1, tq, loT_q lt, nI_clamp (by omega)]
    have e4 : l.take (t + 1) = l.take t ++ [l.getD t 0] := by
      rw [List.take_succ_eq_append_getElem (by rw [hl.1]; omega), List.getD_eq_getElem?_getD, List.getElem?_eq_getElem (by rw [hl.1]; omega)]; rfl
    rw [e4, cs_snoc, itF]
    rw [e3] at e2
    exact e2.tr (e1.st _)
theorem lsum_eq (e : EQO g h) : ∀ n, lsum g n = lsum h n := by
  intro n
  induction n with
  | zero => rfl
  | succ n ih => rw [lsum, lsum, ih, e (41 + n) (by omega)]
theorem evP_cs {l : List Nat} (hf : WF f) (hl : LNE f l) : evP f l = csT f l 4 - f 4 := by
  have e := it_cs hf hl (tw f) (Nat.le_refl _)
  rw [List.take_of_length_le (by rw [hl.1]; exact Nat.le_refl _)] at e
  unfold evP
  rw [e 4 (by omega)]
theorem evL_cs {l : List Nat} (hf : WF f) (hl : LNE f l) : evL f l = lsum (csT f l) (tn f) := by
  have e := it_cs hf hl (tw f) (Nat.le_refl _)
  rw [List.take_of_length_le (by rw [hl.1]; exact Nat.le_refl _)] at e
  unfold evL
  rw [lsum_eq e]
end CRS

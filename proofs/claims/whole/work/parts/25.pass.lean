/-! ===== pure: what a town keeps, and a whole turn ===== -/
section PASS
variable {s : Prop} {I : II} {j : Nat} {f g : TW}
theorem WF.ch (hf : WF f) (h : ∀ q, q < 3 ∨ (7 ≤ q ∧ q < 41) → g q = f q) (hl : ∀ t, t < tn f → ∃ l, l ≤ 99 ∧ g (41 + t) = nI l) : WF g := by
  have e0 : tn g = tn f := by rw [tn, tn, h 0 (by omega)]
  have e7 : tw g = tw f := by rw [tw, tw, h 7 (by omega)]
  have n4 := hf.n.2
  have w7 := hf.w.2
  have eq : ∀ k, k < tw f → tq g k = tq f k := fun k hk => by rw [tq, tq, h _ (by omega)]
  refine ⟨⟨?_, by omega⟩, ⟨?_, by omega⟩, fun k hk => ?_, fun i k hi hk e => ?_, fun p hp => ?_, fun k hk => ?_, fun p hp hk => ?_, fun t ht => ?_, fun h0 => ?_⟩
  · rw [h 0 (by omega), e0]; exact hf.n.1
  · rw [h 7 (by omega), e7]; exact hf.w.1
  · rw [e7] at hk
    rw [h _ (by omega), eq k hk]; exact hf.q hk
  · rw [e7] at hi hk
    rw [eq i hi, eq k hk] at e
    exact hf.dist hi hk e
  · rw [h _ (by omega)]; exact hf.dr hp
  · rw [e7] at hk
    have := (hf.q hk).2
    rw [eq k hk, h _ (by omega)]; exact hf.kn hk
  · rw [h _ (by omega)] at hk
    rw [h _ (by omega)]; exact hf.sm hp hk
  · rw [e0] at ht
    obtain ⟨a1, a2, a3, a4⟩ := hf.te ht
    rw [h _ (by omega), h _ (by omega), h _ (by omega)]
    exact ⟨a1, a2, a3, hl t ht⟩
  · rw [e0] at h0
    rw [h 2 (by omega), h 1 (by omega)]; exact hf.wk h0
theorem dT_py (f : TW) (x : Int32) : ∀ n t, t < 2147483648 → n < 2147483648 → dT f x n = nI t → pyT f t x = true := by
  intro n
  induction n with
  | zero => intro t ht _ e; exact absurd e.symm (by show ¬ nI t = (-nI 1000000); rw [nIneg ht (by omega) (by omega)]; exact not_false)
  | succ n ih =>
    intro t ht hn e
    rw [dT] at e
    split at e
    · rename_i c
      have e' : n = t := by rw [nIeq (by omega) ht] at e; exact e
      subst e'
      simp only [Bool.and_eq_true] at c
      exact c.1.2
    · exact ih t ht (by omega) e
theorem lfT_ok (hf : WF f) {t p : Nat} (ht : t < tn f) (hp : p < 7) (hk : ¬ f (22 + p) = -nI 1) (hw : f (22 + p) = nI 1 → pyT f t (f (15 + p)) = true) : ∃ l, l ≤ 99 ∧ lfT f t p = nI l := by
  obtain ⟨hkd, hd, hc, l, hl, el⟩ := hf.te ht
  obtain ⟨x, x1, x2, ex⟩ := hf.sm hp hk
  obtain ⟨-, i, hi, ei⟩ := hf.wk (by omega)
  rw [lfT, gvT]
  by_cases hD : f (22 + p) = nI 1
  · have hw := hw hD
    rw [if_pos hD, if_pos (by rw [ex]; exact pyT_le hf ht x1 (by omega))]
    obtain ⟨c, c1, c2, ec⟩ := costT_nI hkd hc x1 (by omega : x ≤ 99)
    rw [pyT, el, ex, ec, ei] at hw
    rw [el, ex, ec, ← Int32.sub_eq_add_neg]
    have h2 : ¬ nI l - nI c < nI i := by simpa using hw
    rw [Int32.lt_iff_toInt_lt, pk_sub_toInt (by omega) (by omega), nI_toInt (by omega)] at h2
    exact ⟨l - c, by omega, nIsub (by omega)⟩
  · rw [if_neg hD, el, ex, nI_add]
    by_cases c : nI (l + x) ≤ nI 99
    · rw [if_pos c]
      rw [nIle (by omega) (by omega)] at c
      exact ⟨l + x, c, rfl⟩
    · rw [if_neg c]; exact ⟨99, by omega, rfl⟩
theorem wT_py (hf : WF f) {p t : Nat} (h : wT f p (tn f) = nI t) (ht : t < tn f) : f (22 + p) = nI 1 → pyT f t (f (15 + p)) = true := by
  intro e
  have := hf.n.2
  rw [wT_d e] at h
  exact dT_py f _ _ t (by omega) (by omega) h
theorem WF.serve (hf : WF f) {p : Nat} (hp : p < 7) (hk : ¬ f (22 + p) = -nI 1) : WF (serveT f p) := by
  have n4 := hf.n.2
  rw [serveT]
  rcases wT_in f p (tn f) with e | ⟨t, ht, e⟩
  · rw [if_pos e]
    exact hf.ch (fun q hq => upd_ne (by omega)) (fun t ht => by rw [upd_ne (by omega)]; exact (hf.te ht).2.2.2)
  · have eN : ¬ wT f p (tn f) = (-nI 1000000) := by rw [e, nIneg (by omega) (by omega) (by omega)]; exact not_false
    rw [if_neg eN, e, nIcl (by omega), takeT]
    refine hf.ch (fun q hq => ?_) (fun u hu => ?_)
    · rw [upd_ne (by omega), upd_ne (by omega), upd_ne (by omega)]
    · rw [upd_ne (by omega), upd_ne (by omega)]
      by_cases eu : u = t
      · subst eu; rw [upd_eq]; exact lfT_ok hf ht hp hk (wT_py hf e ht)
      · rw [upd_ne (by omega)]; exact (hf.te hu).2.2.2
theorem WF.lv (hf : WF f) {pl : Nat} (hpl : pl < tw f) (hg : isLv f pl g) : WF g := by
  obtain ⟨g1, g2, g3⟩ := hg
  have n4 := hf.n.2
  have w7 := hf.w.2
  have e0 : tn g = tn f := by rw [tn, tn, g1 0 (by omega)]
  have e7 : tw g = tw f - 1 := by rw [tw, g2, nI_clamp (by omega)]
  have eq : ∀ k, k < tw f - 1 → g (8 + k) = nI (tq f (if k < pl then k else k + 1)) ∧ tq g k = tq f (if k < pl then k else k + 1) ∧ (if k < pl then k else k + 1) < tw f := fun k hk => by
    have hlt : (if k < pl then k else k + 1) < tw f := by split <;> omega
    have h1 := hf.q hlt
    have h2 := (g3 k hk).trans h1.1
    exact ⟨h2, by rw [tq, h2, nI_clamp (by omega)], hlt⟩
  refine ⟨⟨?_, by omega⟩, ⟨?_, by omega⟩, fun k hk => ?_, fun i k hi hk e => ?_, fun p hp => ?_, fun k hk => ?_, fun p hp hk => ?_, fun t ht => ?_, fun h0 => ?_⟩
  · rw [g1 0 (by omega), e0]; exact hf.n.1
  · rw [g2, e7]
  · rw [e7] at hk
    obtain ⟨a1, a2, a3⟩ := eq k hk
    rw [a1, a2]; exact ⟨rfl, (hf.q a3).2⟩
  · rw [e7] at hi hk
    obtain ⟨a1, a2, a3⟩ := eq k hk
    obtain ⟨b1, b2, b3⟩ := eq i hi
    rw [a2, b2] at e
    have := hf.dist b3 a3 e
    by_cases c1 : i < pl <;> by_cases c2 : k < pl <;> simp [c1, c2] at this <;> omega
  · rw [g1 _ (by omega)]; exact hf.dr hp
  · rw [e7] at hk
    obtain ⟨a1, a2, a3⟩ := eq k hk
    have := (hf.q a3).2
    rw [a2, g1 _ (by omega)]; exact hf.kn a3
  · rw [g1 _ (by omega)] at hk
    rw [g1 _ (by omega)]; exact hf.sm hp hk
  · rw [e0] at ht
    rw [g1 _ (by omega), g1 _ (by omega), g1 _ (by omega), g1 _ (by omega)]
    exact hf.te ht
  · rw [e0] at h0
    rw [g1 2 (by omega), g1 1 (by omega)]; exact hf.wk h0
theorem wkT_ok (hf : WF f) : ∀ n, n ≤ tn f → ∀ t, t < tn f → ∃ l, l ≤ 99 ∧ wkT f n (41 + t) = nI l := by
  have n4 := hf.n.2
  intro n
  induction n with
  | zero => intro _ t ht; exact (hf.te ht).2.2.2
  | succ n ih =>
    intro hn t ht
    rw [wkT]
    by_cases e : t = n
    · subst e
      rw [upd_eq]
      obtain ⟨l, hl, el⟩ := ih (by omega) t ht
      obtain ⟨-, ⟨d, hd, ed⟩, -⟩ := hf.te ht
      rw [wkT_oth f t (33 + t) (by omega), ed, el]
      split
      · rename_i c
        rw [nIle (by omega) (by omega)] at c
        exact ⟨l + 1, by omega, nI_add _ _⟩
      · exact ⟨l, hl, nI_add _ _⟩
    · rw [upd_ne (by omega)]; exact ih (by omega) t ht
theorem finT_oth (f : TW) (hn : tn f ≤ 4) {q : Nat} (hq : q ≠ 3) (h2 : q < 41 ∨ 45 ≤ q) : finT f q = f q := by
  rw [finT, endT]
  split
  · exact upd_ne hq
  · split
    · rw [wkT_upd, upd_ne hq, wkT_oth _ _ _ (by omega)]
    · exact upd_ne hq
theorem WF.fin (hf : WF f) : WF (finT f) := by
  have n4 := hf.n.2
  refine hf.ch (fun q hq => finT_oth f n4 (by omega) (by omega)) (fun t ht => ?_)
  rw [finT, endT]
  split
  · rw [upd_ne (by omega)]; exact (hf.te ht).2.2.2
  · split
    · rw [wkT_upd, upd_ne (by omega)]; exact wkT_ok hf _ (Nat.le_refl _) t ht
    · rw [upd_ne (by omega)]; exact (hf.te ht).2.2.2
theorem wT_congr (h : ∀ q, (q < 7 ∨ 15 ≤ q) → g q = f q) (p : Nat) : ∀ t, wT g p t = wT f p t := by
  have ho : ∀ t, opT g t = opT f t := fun t => by rw [opT, opT, h 6 (by omega)]
  have hc : ∀ t x, costT g t x = costT f t x := fun t x => by rw [costT, costT, cA, cA, h _ (by omega), h _ (by omega)]
  have hp : ∀ t x, pyT g t x = pyT f t x := fun t x => by rw [pyT, pyT, hc, h 1 (by omega), h _ (by omega)]
  intro t
  induction t with
  | zero => rfl
  | succ t ih => rw [wT, wT, ih, ho, hp, h (22 + p) (by omega), h (15 + p) (by omega), h (41 + t) (by omega), h (41 + (wT f p t).toNatClampNeg) (by omega)]
theorem serve_leave (hf : WF f) {p : Nat} (hp : p < 7) (h0 : 0 < tw f) : serveT (leaveT f (tw f)) p = leaveT (serveT f p) (tw f) := by
  have n4 := hf.n.2
  have w7 := hf.w.2
  obtain ⟨g1, g2, g3⟩ := isLv_leaveT f w7
  have en : tn (leaveT f (tw f)) = tn f := by rw [tn, tn, g1 0 (by omega)]
  have eW := wT_congr g1 p
  have out : ∀ (h : TW) q, (q < 7 ∨ 15 ≤ q) → leaveT h (tw f) q = h q := fun h q hq => by rw [leaveT, upd_ne (by omega), mvT_oth _ _ q (by omega)]
  have ins : ∀ (h k : TW) q, (∀ r, 7 ≤ r → r < 15 → h r = k r) → 7 ≤ q → q < 15 → leaveT h (tw f) q = leaveT k (tw f) q := fun h k q e a b => by
    rw [leaveT, leaveT]
    by_cases e7 : q = 7
    · subst e7; rw [upd_eq, upd_eq]
    · rw [upd_ne e7, upd_ne e7]
      obtain ⟨r, rfl⟩ : ∃ r, q = 8 + r := ⟨q - 8, by omega⟩
      by_cases c : r < tw f - 1
      · rw [mvT_in _ _ _ c, mvT_in _ _ _ c]; exact e _ (by omega) (by omega)
      · rw [mvT_oth _ _ _ (by omega), mvT_oth _ _ _ (by omega)]; exact e _ (by omega) (by omega)
  funext q
  by_cases hq : 7 ≤ q ∧ q < 15
  · have e1 : ∀ h : TW, ∀ r, 7 ≤ r → r < 15 → tn h ≤ 4 → serveT h p r = h r := fun h r a b c => by
      rw [serveT]
      rcases wT_in h p (tn h) with e | ⟨t, ht, e⟩
      · rw [if_pos e, upd_ne (by omega)]
      · have eN : ¬ wT h p (tn h) = (-nI 1000000) := by rw [e, nIneg (by omega) (by omega) (by omega)]; exact not_false
        rw [if_neg eN, e, nIcl (by omega), takeT, upd_ne (by omega), upd_ne (by omega), upd_ne (by omega)]
    rw [e1 _ q hq.1 hq.2 (by omega)]
    exact ins f (serveT f p) q (fun r a b => (e1 f r a b n4).symm) hq.1 hq.2
  · rw [out _ q (by omega), serveT, serveT, en, eW, g1 5 (by omega), g1 4 (by omega)]
    rcases wT_in f p (tn f) with e | ⟨t, ht, e⟩
    · rw [if_pos e, if_pos e]
      simp only [upd]
      split
      · rfl
      · exact g1 q (by omega)
    · have eN : ¬ wT f p (tn f) = (-nI 1000000) := by rw [e, nIneg (by omega) (by omega) (by omega)]; exact not_false
      have hc : ∀ t x, costT (leaveT f (tw f)) t x = costT f t x := fun t x => by rw [costT, costT, cA, cA, g1 _ (by omega), g1 _ (by omega)]
      have hl : lfT (leaveT f (tw f)) t p = lfT f t p := by rw [lfT, lfT, gvT, gvT, hc, g1 _ (by omega), g1 _ (by omega), g1 _ (by omega)]
      rw [if_neg eN, if_neg eN, e, nIcl (by omega), takeT, takeT, hl, g1 (45 + t) (by omega)]
      simp only [upd]
      split
      · rfl
      · split
        · rfl
        · split
          · rfl
          · exact g1 q (by omega)
theorem WF.pass (hf : WF f) : WF (passF f) := by
  rw [passF]
  split
  · exact hf.fin
  · rename_i h0
    have hq := hf.q (k := 0) (by omega)
    have h2 := (hf.serve hq.2 (hf.kn (by omega)))
    have e7 : tw (serveT f (tq f 0)) = tw f := by
      have n4 := hf.n.2
      rw [tw, serveT]
      rcases wT_in f (tq f 0) (tn f) with e | ⟨t, ht, e⟩
      · rw [if_pos e, upd_ne (by omega)]; rfl
      · have eN : ¬ wT f (tq f 0) (tn f) = (-nI 1000000) := by rw [e, nIneg (by omega) (by omega) (by omega)]; exact not_false
        rw [if_neg eN, e, nIcl (by omega), takeT, upd_ne (by omega), upd_ne (by omega), upd_ne (by omega)]; rfl
    have h3 := isLv_leaveT (serveT f (tq f 0)) h2.w.2
    rw [e7] at h3
    exact (h2.lv (pl := 0) (by rw [e7]; omega) h3).fin
theorem tn_pass (hf : WF f) : tn (passF f) = tn f := by
  have n4 := hf.n.2
  have key : ∀ h : TW, h 0 = f 0 → finT h 0 = f 0 := fun h e => by rw [finT_oth h (by rw [tn, e]; exact n4) (by omega) (by omega), e]
  rw [tn, tn, passF]
  split
  · rw [key f rfl]
  · rw [key]
    rw [leaveT, upd_ne (by omega), mvT_oth _ _ 0 (by omega), serveT]
    split
    · exact upd_ne (by omega)
    · rw [takeT, upd_ne (by omega), upd_ne (by omega), upd_ne (by omega)]
theorem c_passTurn {Q : Int32 → II → Prop} (h : BK s I j f) (hf : WF f) (h0 : 0 < tn f) (hq : ∀ J, BK s J j (passF f) → OUT j I J → Q (passR f) J) : wp_X1_passTurn j I Q := by
  have hw := hf.w
  rw [passR, passF] at hq
  unfold wp_X1_passTurn
  simp (disch := omega) only [h.1.2.2.2.2.2.2.2, hw.1, nIle0]
  by_cases c : tw f = 0
  · simp only [c, true_implies, not_true_eq_false, false_implies, and_true, wp_X1_passTurn_21]
    rw [if_pos c, if_pos c] at hq
    exact c_endTurn h hf h0 hq
  · simp only [c, false_implies, true_and, not_false_eq_true, true_implies]
    rw [if_neg c, if_neg c] at hq
    refine c_leave h hf (pl := 0) (by omega) (fun J hJ hO => ?_)
    have q0 := hf.q (k := 0) (by omega)
    have hk := hf.kn (k := 0) (by omega)
    have hL := isLv_leaveT f hw.2
    have hf1 : WF (leaveT f (tw f)) := hf.lv (pl := 0) (by omega) hL
    have hk1 : ¬ leaveT f (tw f) (22 + tq f 0) = -nI 1 := by rw [hL.1 _ (by omega)]; exact hk
    have en : tn (leaveT f (tw f)) = tn f := by rw [tn, tn, hL.1 0 (by omega)]
    refine c_attend (hJ _ hL) hf1 q0.2 hk1 (fun K hK hO2 => ?_)
    unfold wp_X1_passTurn_21
    have hf2 : WF (serveT (leaveT f (tw f)) (tq f 0)) := hf1.serve q0.2 hk1
    have h02 : 0 < tn (serveT (leaveT f (tw f)) (tq f 0)) := by
      rw [serve_leave hf q0.2 (by omega), tn, leaveT, upd_ne (by omega), mvT_oth _ _ 0 (by omega), serveT]
      split
      · rw [upd_ne (by omega)]; exact h0
      · rw [takeT, upd_ne (by omega), upd_ne (by omega), upd_ne (by omega)]; exact h0
    refine c_endTurn hK hf2 h02 (fun L hL2 hO3 => ?_)
    rw [en, wT_congr hL.1]
    refine hq L ?_ ((hO.tr hO2).tr hO3)
    rw [serve_leave hf q0.2 (by omega)] at hL2
    exact hL2
end PASS

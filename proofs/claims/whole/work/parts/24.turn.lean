/-! ===== pure: the turn's end, leaving; what a town keeps ===== -/
section TURN
variable {s : Prop} {I : II} {j : Nat} {f : TW}
theorem wkT_upd (f : TW) (v : Int32) : ∀ n, wkT (upd f 3 v) n = upd (wkT f n) 3 v := by
  intro n
  induction n with
  | zero => rfl
  | succ n ih =>
    rw [wkT, wkT, ih, upd_ne (f := wkT f n) (k := 3) (k' := 41 + n) (by omega), upd_ne (f := wkT f n) (k := 3) (k' := 29 + n) (by omega), upd_ne (f := wkT f n) (k := 3) (k' := 33 + n) (by omega), upd_comm (by omega)]
theorem wkT_n (f : TW) (k : Nat) : tn (wkT f k) = tn f := by rw [tn, tn, wkT_oth f k 0 (by omega)]
theorem wkT_w (f : TW) (k : Nat) : tw (wkT f k) = tw f := by rw [tw, tw, wkT_oth f k 7 (by omega)]
theorem c_wk_loop {Q : II → Prop} {k : II → Prop} {I0 : II} (hf : WF f) (hk : ∀ J, BK s J j (wkT f (tn f)) → OUT j I0 J → k J) : ∀ (d t : Nat) (I : II), t + d = tn f → BK s I j (wkT f t) → OUT j I0 I → ∃ N, wp_X1_endTurn_23 j Q k N (nI t) I := by
  have hn := hf.n
  have hw := hf.w
  intro d
  induction d with
  | zero =>
    intro t I ht h hO
    refine ⟨1, ?_⟩
    rw [wp_X1_endTurn_23.eq_2]
    have c : tn f ≤ t := by omega
    have e : t = tn f := by omega
    have e0 : I (8 * j) 2 = nI (tn f) := by rw [h.1.2.2.1, wkT_oth f t 0 (by omega), hn.1]
    simp (disch := omega) only [e0, nIle, c, true_implies, not_true_eq_false, false_implies, and_true]
    rw [e] at h; exact hk I h hO
  | succ d ih =>
    intro t I ht h hO
    have htn : t < tn f := by omega
    have c1 : ¬ tn f ≤ t := by omega
    have c2 : ¬ 4 ≤ t := by omega
    have ht4 : t < 4 := by omega
    have e0 : I (8 * j) 2 = nI (tn f) := by rw [h.1.2.2.1, wkT_oth f t 0 (by omega), hn.1]
    obtain ⟨b1, b2, b3, b4, b5⟩ := h.2.1 t (by rw [wkT_n]; exact htn)
    have stay : ¬ (wkT f t (29 + t) = nI 5 ∧ ¬ wkT f t (33 + t) ≤ wkT f t (41 + t)) → ∃ N, wp_X1_endTurn_23 j Q k N (nI (t + 1)) I := by
      intro c
      refine ih (t + 1) I (by omega) ?_ hO
      have e : wkT f (t + 1) = wkT f t := by
        rw [wkT, if_neg c, show wkT f t (41 + t) + nI 0 = wkT f t (41 + t) from Int32.add_zero _, upd_self]
      rw [e]; exact h
    by_cases h5 : wkT f t (29 + t) = nI 5
    · by_cases h6 : wkT f t (33 + t) ≤ wkT f t (41 + t)
      · obtain ⟨N, hN⟩ := stay (fun z => z.2 h6)
        refine ⟨N + 1, ?_⟩
        rw [wp_X1_endTurn_23.eq_2]
        simp (disch := omega) only [wp_X1_endTurn_71, e0, nIle, c1, c2, false_implies, true_and, not_false_eq_true, true_implies, not_true_eq_false, and_true, nIvp, nIcl, ht4, b1, b2, b4, h5, h6, nI_add]
        exact hN
      · have h' := h.left (by rw [wkT_n]; exact hn.2) (by rw [wkT_w]; exact hw.2) t (wkT f t (41 + t) + nI 1) ht4
        have e : wkT f (t + 1) = upd (wkT f t) (41 + t) (wkT f t (41 + t) + nI 1) := by rw [wkT, if_pos ⟨h5, h6⟩]
        rw [← e] at h'
        obtain ⟨N, hN⟩ := ih (t + 1) _ (by omega) h' (hO.su (by omega))
        refine ⟨N + 1, ?_⟩
        rw [wp_X1_endTurn_23.eq_2]
        simp (disch := omega) only [wp_X1_endTurn_71, e0, nIle, c1, c2, false_implies, true_and, not_false_eq_true, true_implies, not_true_eq_false, and_true, nIvp, nIcl, ht4, b1, b2, b4, h5, h6, nI_add, forall_eq]
        exact hN
    · obtain ⟨N, hN⟩ := stay (fun z => h5 z.1)
      refine ⟨N + 1, ?_⟩
      rw [wp_X1_endTurn_23.eq_2]
      simp (disch := omega) only [wp_X1_endTurn_71, e0, nIle, c1, c2, false_implies, true_and, not_false_eq_true, true_implies, not_true_eq_false, and_true, nIvp, nIcl, ht4, b1, b2, b4, h5, nI_add]
      exact hN
theorem c_endTurn {Q : II → Prop} (h : BK s I j f) (hf : WF f) (h0 : 0 < tn f) (hq : ∀ J, BK s J j (finT f) → OUT j I J → Q J) : wp_X1_endTurn j I Q := by
  obtain ⟨⟨w, w1, w2, ew⟩, -⟩ := hf.wk h0
  have e1 : I (8 * j) 1 = nI w := by rw [h.1.2.1, ew]
  have c1 : ¬ w = 0 := by omega
  rw [finT, if_neg (by omega), endT] at hq
  have fin : ∀ (J : II) (g : TW), BK s J j g → g 3 = f 3 → OUT j I J → (∀ K, BK s K j (upd g 3 (f 3 + nI 1)) → OUT j I K → Q K) → wp_X1_endTurn_77 j Q J := by
    intro J g hJ e3 hO hK
    unfold wp_X1_endTurn_77
    simp only [forall_eq]
    have h4 := hJ.num 4 3 (J (8 * j) 4 + nI 1) (by omega)
    rw [hJ.1.2.2.2.2.1, e3] at h4 ⊢
    exact hK _ h4 (hO.su (by omega))
  unfold wp_X1_endTurn
  rw [h.1.2.2.2.2.1, e1]
  rw [ew] at hq
  simp (disch := omega) only [nIle0, nIe0, c1, false_implies, true_and, not_false_eq_true, true_implies]
  by_cases c : f 3 + nI 1 - (f 3 + nI 1) / nI w * nI w = 0
  · simp only [c, not_true_eq_false, false_implies, true_and, true_implies]
    rw [if_pos c] at hq
    refine c_wk_loop (I0 := I) hf (fun J hJ hO => ?_) (tn f) 0 I (by omega) h (OUT.rf j I)
    refine fin J _ hJ (wkT_oth f _ 3 (by omega)) hO (fun K hK hO2 => hq K ?_ hO2)
    rw [wkT_upd]; exact hK
  · simp only [c, not_false_eq_true, true_implies, false_implies, and_true]
    rw [if_neg c] at hq
    exact fin I f h rfl (OUT.rf j I) hq
/-- g is f without the paper at place pl of its queue -/
def isLv (f : TW) (pl : Nat) (g : TW) : Prop := (∀ q, (q < 7 ∨ 15 ≤ q) → g q = f q) ∧ g 7 = nI (tw f - 1) ∧ ∀ i, i < tw f - 1 → g (8 + i) = f (8 + (if i < pl then i else i + 1))
theorem isLv_leaveT (f : TW) (hw : tw f ≤ 7) : isLv f 0 (leaveT f (tw f)) := by
  refine ⟨fun q hq => ?_, ?_, fun i hi => ?_⟩
  · rw [leaveT, upd_ne (by omega), mvT_oth _ _ q (by omega)]
  · rw [leaveT, upd_eq]
  · rw [leaveT, upd_ne (by omega), mvT_in _ _ i hi, if_neg (by omega)]
theorem c_lv_loop {Q : Int32 → II → Prop} {k : Int32 → II → Prop} {I0 : II} {pl : Nat} {r : Int32} (h : BK s I0 j f) (hf : WF f) (hpl : pl < tw f) (hk : ∀ J, (∀ a, a ≠ 8 * j + 7 → J a = I0 a) → (∀ i, i < tw f - 1 → J (8 * j + 7) i = f (8 + (if i < pl then i else i + 1))) → k r J) : ∀ (d t : Nat) (I : II), pl < t → t + d = tw f → (∀ a, a ≠ 8 * j + 7 → I a = I0 a) → (∀ i, i < tw f → I (8 * j + 7) i = f (8 + (if i < pl then i else if i < t - 1 then i + 1 else i))) → ∃ N, wp_X1_leave_19 j Q k N r (nI t) I := by
  have hw := hf.w
  intro d
  induction d with
  | zero =>
    intro t I hlt ht h1 h2
    refine ⟨1, ?_⟩
    rw [wp_X1_leave_19.eq_2]
    have c : tw f ≤ t := by omega
    have e0 : I (8 * j) 7 = nI (tw f) := by rw [h1 _ (by omega), h.1.2.2.2.2.2.2.2, hw.1]
    simp (disch := omega) only [e0, nIle, c, true_implies, not_true_eq_false, false_implies, and_true]
    refine hk I h1 (fun i hi => ?_)
    rw [h2 i (by omega)]
    by_cases c1 : i < pl
    · simp [c1]
    · rw [if_neg c1, if_neg c1, if_pos (by omega)]
  | succ d ih =>
    intro t I hlt ht h1 h2
    have c1 : ¬ tw f ≤ t := by omega
    have c2 : ¬ 7 ≤ t := by omega
    have ht7 : t < 7 := by omega
    have ht7' : t - 1 < 7 := by omega
    have e0 : I (8 * j) 7 = nI (tw f) := by rw [h1 _ (by omega), h.1.2.2.2.2.2.2.2, hw.1]
    have em : nI t - nI 1 = nI (t - 1) := nIsub (by omega)
    obtain ⟨N, hN⟩ := ih (t + 1) (su I (8 * j + 7) (t - 1) (I (8 * j + 7) t)) (by omega) (by omega) (fun a ha => by rw [su_cell ha]; exact h1 a ha) (fun i hi => by
      by_cases ei : i = t - 1
      · subst ei
        rw [su_eq, h2 t (by omega), if_neg (by omega), if_neg (by omega), if_neg (by omega), if_pos (by omega)]
        congr 2
        omega
      · rw [su_slot ei, h2 i hi]
        by_cases c3 : i < pl
        · simp [c3]
        · rw [if_neg c3, if_neg c3]
          by_cases c4 : i < t - 1
          · rw [if_pos c4, if_pos (by omega)]
          · rw [if_neg c4, if_neg (by omega)])
    refine ⟨N + 1, ?_⟩
    rw [wp_X1_leave_19.eq_2]
    simp (disch := omega) only [e0, nIle, c1, c2, false_implies, true_and, not_false_eq_true, true_implies, nIvp, nIcl, ht7, ht7', em, forall_eq, nI_add]
    exact hN
theorem BK.lv {J : II} {g : TW} {pl : Nat} (h : BK s I j f) (hf4 : tn f ≤ 4) (hf7 : tw f ≤ 7) (hg : isLv f pl g) (h1 : ∀ a, a ≠ 8 * j + 7 → a ≠ 8 * j → J a = I a) (h2 : ∀ q, q ≠ 7 → J (8 * j) q = I (8 * j) q) (h3 : J (8 * j) 7 = nI (tw f - 1)) (h4 : ∀ i, i < tw f - 1 → J (8 * j + 7) i = f (8 + (if i < pl then i else i + 1))) : BK s J j g := by
  obtain ⟨⟨x0, x1, x2, x3, x4, x5, x6, x7⟩, ht, hq, hk, hd⟩ := h
  obtain ⟨g1, g2, g3⟩ := hg
  have e1 : tn g = tn f := by rw [tn, tn, g1 0 (by omega)]
  have e2 : tw g = tw f - 1 := by rw [tw, g2, nI_clamp (by omega)]
  refine ⟨?_, fun t h => ?_, fun k h => ?_, fun p h => ?_, fun p h z => ?_⟩
  · rw [h2 0 (by omega), h2 1 (by omega), h2 2 (by omega), h2 3 (by omega), h2 4 (by omega), h2 5 (by omega), h2 6 (by omega), h3, g1 0 (by omega), g1 1 (by omega), g1 2 (by omega), g1 3 (by omega), g1 4 (by omega), g1 5 (by omega), g1 6 (by omega), g2]
    exact ⟨x0, x1, x2, x3, x4, x5, x6, rfl⟩
  · rw [e1] at h
    rw [h1 _ (by omega) (by omega), h1 _ (by omega) (by omega), h1 _ (by omega) (by omega), h1 _ (by omega) (by omega), h1 _ (by omega) (by omega), g1 _ (by omega), g1 _ (by omega), g1 _ (by omega), g1 _ (by omega), g1 _ (by omega)]
    exact ht t h
  · rw [e2] at h
    rw [h4 k h, g3 k h]
  · rw [h2 9 (by omega), g1 _ (by omega)]; exact hk p h
  · rw [g1 _ (by omega)] at z
    rw [h2 8 (by omega), h1 _ (by omega) (by omega), g1 _ (by omega), g1 _ (by omega)]
    exact hd p h z
theorem c_paperAt (h : BK s I j f) (hf : WF f) {k : Nat} (hk : k < tw f) (Q : Int32 → II → Prop) : wp_X1_paperAt j (nI k) I Q = Q (nI (tq f k)) I := by
  have hw := hf.w
  have c1 : ¬ tw f ≤ k := by omega
  have c2 : ¬ 7 ≤ k := by omega
  have c3 : k < 7 := by omega
  unfold wp_X1_paperAt
  simp (disch := omega) only [h.1.2.2.2.2.2.2.2, hw.1, nIlt0, nIle, c1, c2, c3, false_implies, true_and, not_false_eq_true, true_implies, nIvp, nIcl, h.2.2.1 k hk, (hf.q hk).1]
theorem c_leave {Q : Int32 → II → Prop} (h : BK s I j f) (hf : WF f) {pl : Nat} (hpl : pl < tw f) (hq : ∀ J, (∀ g, isLv f pl g → BK s J j g) → OUT j I J → Q (nI (tq f pl)) J) : wp_X1_leave j (nI pl) I Q := by
  have hw := hf.w
  have q7 := (hf.q hpl).2
  unfold wp_X1_leave
  rw [c_paperAt h hf hpl]
  have eN : ¬ nI (tq f pl) = (-nI 1000000) := by rw [nIneg (by omega) (by omega) (by omega)]; exact not_false
  simp only [eN, not_false_eq_true, true_implies, false_implies, and_true, nI_add]
  refine c_lv_loop (I0 := I) (pl := pl) h hf hpl (fun J h1 h2 => ?_) (tw f - (pl + 1)) (pl + 1) I (by omega) (by omega) (fun _ _ => rfl) (fun i hi => ?_)
  · unfold wp_X1_leave_53
    simp only [forall_eq]
    have e7 : J (8 * j) 7 = nI (tw f) := by rw [h1 _ (by omega), h.1.2.2.2.2.2.2.2, hw.1]
    rw [e7, nIsub (by omega)]
    refine hq _ (fun g hg => h.lv hf.n.2 hw.2 hg (fun a h3 h4 => ?_) (fun q h3 => ?_) (su_eq _ _ _ _) (fun i hi => ?_)) (fun a ha => ?_)
    · rw [su_cell h4]; exact h1 a h3
    · rw [su_slot h3, h1 _ (by omega)]
    · rw [su_cell (by omega)]; exact h2 i hi
    · rw [su_cell (by omega)]; exact h1 a (by omega)
  · rw [h.2.2.1 i hi]
    by_cases c1 : i < pl
    · simp [c1]
    · rw [if_neg c1, if_neg (by omega)]
end TURN

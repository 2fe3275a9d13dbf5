/-! ===== pure: someone comes, by the reference; come ===== -/
section COMES
variable {I : II} {b : Nat} {f : TW}
theorem m_iw_loop {Q : Int32 → II → Prop} {k : Int32 → II → Prop} {p : Nat} (hb : b ≤ 1323) (hf : WF f) (hp : p < 2147483648) (hk : k (i1 (inQ f p)) (pT I b f)) : ∀ (d t : Nat), t + d = tw f → ∃ N, wp_X8_isWaiting_5 Q k N (nI b) (nI p) (i1 ((List.range t).any (fun k => decide (tq f k = p)))) (nI t) (pT I b f) := by
  have hw := hf.w
  have g7 : b + 7 < 1372 := by omega
  intro d
  induction d with
  | zero =>
    intro t ht
    refine ⟨1, ?_⟩
    rw [wp_X8_isWaiting_5.eq_2]
    have c : tw f ≤ t := by omega
    have e : t = tw f := by omega
    simp (disch := omega) only [nI_add, Nat.add_assoc, nIvp, nIcl, pT_get, g7, hw.1, nIle, c, Bool.true_eq_false, Bool.false_eq_true, false_implies, true_implies, not_true_eq_false, not_false_eq_true, and_true, true_and]
    rw [e]; exact hk
  | succ d ih =>
    intro t ht
    obtain ⟨N, hN⟩ := ih (t + 1) (by omega)
    refine ⟨N + 1, ?_⟩
    rw [wp_X8_isWaiting_5.eq_2]
    have c1 : ¬ tw f ≤ t := by omega
    have g8 : b + (8 + t) < 1372 := by omega
    have q7 := hf.q (k := t) (by omega)
    rw [List.range_succ, List.any_append] at hN
    simp (disch := omega) only [nI_add, Nat.add_assoc, nIvp, nIcl, pT_get, g7, g8, hw.1, nIle, c1, Bool.true_eq_false, Bool.false_eq_true, false_implies, true_implies, not_true_eq_false, not_false_eq_true, and_true, true_and, wp_X8_isWaiting_39, wp_X8_isWaiting_44, q7.1, nIeq, i1_0]
    cases e : (List.range t).any (fun k => decide (tq f k = p)) with
    | true =>
      rw [e] at hN
      simp only [Bool.true_eq_false, Bool.false_eq_true, false_implies, true_implies, not_true_eq_false, not_false_eq_true, and_true, true_and]
      simpa [i1] using hN
    | false =>
      rw [e] at hN
      simp only [Bool.true_eq_false, Bool.false_eq_true, false_implies, true_implies, not_true_eq_false, not_false_eq_true, and_true, true_and]
      by_cases c : tq f t = p
      · simp only [c, Bool.true_eq_false, Bool.false_eq_true, false_implies, true_implies, not_true_eq_false, not_false_eq_true, and_true, true_and]; simpa [i1, c] using hN
      · simp only [c, Bool.true_eq_false, Bool.false_eq_true, false_implies, true_implies, not_true_eq_false, not_false_eq_true, and_true, true_and]; simpa [i1, c] using hN
theorem m_isWaiting {Q : Int32 → II → Prop} {p : Nat} (hb : b ≤ 1323) (hf : WF f) (hp : p < 2147483648) (hk : Q (i1 (inQ f p)) (pT I b f)) : wp_X8_isWaiting (nI b) (nI p) (pT I b f) Q :=
  m_iw_loop (k := fun x3 I => isb x3 ∧ Q x3 I) hb hf hp ⟨i1_b _, hk⟩ (tw f) 0 (by omega)
theorem m_cm_loop {Q : Int32 → II → Prop} {k : Int32 → Int32 → Int32 → Int32 → II → Prop} {p : Nat} {x y : Int32} (hb : b ≤ 1323) (hf : WF f) (hp : isFr f p) (hk : k (nI b) x y (nI p) (pT I b f)) : ∀ (d t : Nat), t + d = p → ∃ N, wp_X8_comes_3 Q k N (nI b) x y (nI t) (pT I b f) := by
  have p7 := hp.1
  intro d
  induction d with
  | zero =>
    intro t ht
    have e : t = p := by omega
    subst e
    refine ⟨1, ?_⟩
    rw [wp_X8_comes_3.eq_2]
    refine m_isWaiting hb hf (by omega) ?_
    rw [hp.2.1, i1_0]
    simp only [Bool.true_eq_false, Bool.false_eq_true, false_implies, true_implies, not_true_eq_false, not_false_eq_true, and_true, true_and]
    exact hk
  | succ d ih =>
    intro t ht
    obtain ⟨N, hN⟩ := ih (t + 1) (by omega)
    refine ⟨N + 1, ?_⟩
    rw [wp_X8_comes_3.eq_2]
    refine m_isWaiting hb hf (by omega) ?_
    rw [hp.2.2 t (by omega), i1_0]
    simp only [Bool.true_eq_false, Bool.false_eq_true, false_implies, true_implies, not_true_eq_false, not_false_eq_true, and_true, true_and, nI_add]
    exact hN
theorem m_comes {Q : Int32 → II → Prop} {p : Nat} {x y : Int32} (hb : b ≤ 1323) (hf : WF f) (hw7 : tw f < 7) (hp : isFr f p) (hq : Q (nI p) (pT I b (cT f x y p))) : wp_X8_comes (nI b) x y (pT I b f) Q := by
  have p7 := hp.1
  have hw := hf.w
  unfold wp_X8_comes
  refine m_cm_loop hb hf hp ?_ p 0 (by omega)
  have e1 : upd (upd f (15 + p) y) (22 + p) x 7 = nI (tw f) := by rw [upd_ne (by omega), upd_ne (by omega), hw.1]
  have e2 : upd (upd (upd f (15 + p) y) (22 + p) x) (8 + tw f) (nI p) 7 = nI (tw f) := by rw [upd_ne (by omega)]; exact e1
  have g15 : b + (15 + p) < 1372 := by omega
  have g22 : b + (22 + p) < 1372 := by omega
  have g7 : b + 7 < 1372 := by omega
  have g8 : b + (8 + tw f) < 1372 := by omega
  simp (disch := omega) only [nI_add, Nat.add_assoc, nIvp, nIcl, pT_get, forall_eq, pT_set, e1, e2, g15, g22, g7, g8, true_and]
  exact hq
end COMES
theorem s_come (x y : Int32) : SIM (wp_X7_come x y) (wp_X8_come x y) := by
  intro I v
  obtain ⟨f, sz, lt, h, p, c, m⟩ := v.ok
  have n4 := p.1.n.2
  have hw := p.1.w
  have bad : ∀ w : Int32, (if 0 < tn f then (if inB 0 1 x = true ∧ inB 1 30 y = true then tw f = 7 ∧ w = -nI 1000003 else w = -nI 1000001) else w = -nI 1000002) → wp_X8_come x y I (fun r' K => w = r' ∧ INV K) := by
    intro w hw'
    unfold wp_X8_come
    rw [m_inE _ _ _ _ _ (by omega) (by omega), m_inE _ _ _ _ _ (by omega) (by omega), m.2.2.1, i1_0, i1_0, i1_0]
    have m7 : I 316 7 = nI (tw f) := by rw [m.1 7 (by omega), hw.1]
    by_cases h0 : 0 < tn f
    · rw [if_pos h0] at hw'
      rw [decide_eq_true h0]
      by_cases c1 : inB 0 1 x = true <;> by_cases c2 : inB 1 30 y = true
      · rw [if_pos ⟨c1, c2⟩] at hw'
        have e7 : tw f = 7 := hw'.1
        simp (disch := omega) only [c1, c2, Bool.true_eq_false, Bool.false_eq_true, false_implies, true_implies, not_true_eq_false, not_false_eq_true, and_true, true_and, nIvp, nIcl, m7, e7, nIeq]
        exact ⟨by omega, hw'.2, v⟩
      · rw [if_neg (fun q => c2 q.2)] at hw'
        have c2 : inB 1 30 y = false := by simpa using c2
        simp only [c1, c2, Bool.true_eq_false, Bool.false_eq_true, false_implies, true_implies, not_true_eq_false, not_false_eq_true, and_true, true_and]; exact ⟨hw', v⟩
      · rw [if_neg (fun q => c1 q.1)] at hw'
        have c1 : inB 0 1 x = false := by simpa using c1
        simp only [c1, Bool.true_eq_false, Bool.false_eq_true, false_implies, true_implies, not_true_eq_false, not_false_eq_true, and_true, true_and]; exact ⟨hw', v⟩
      · rw [if_neg (fun q => c1 q.1)] at hw'
        have c1 : inB 0 1 x = false := by simpa using c1
        simp only [c1, Bool.true_eq_false, Bool.false_eq_true, false_implies, true_implies, not_true_eq_false, not_false_eq_true, and_true, true_and]; exact ⟨hw', v⟩
    · rw [if_neg h0] at hw'
      rw [decide_eq_false h0]
      simp only [Bool.true_eq_false, Bool.false_eq_true, false_implies, true_implies, not_true_eq_false, not_false_eq_true, and_true, true_and]; exact ⟨hw', v⟩
  unfold wp_X7_come
  rw [c_isThere c.1 p.1, i1_0]
  have e7 : I (8 * 0) 7 = nI (tw f) := by rw [c.1.1.2.2.2.2.2.2.2, hw.1]
  refine ⟨fun h0 => ?_, fun h0 => bad _ (by rw [if_neg (by simpa using h0)])⟩
  have h0 : 0 < tn f := by have := h0; simp at this; omega
  rw [k_isChoice, i1_0]
  refine ⟨fun c1 => bad _ (by rw [if_pos h0, if_neg (fun q => by rw [q.1] at c1; cases c1)]), fun c1 => ?_⟩
  have c1 : inB 0 1 x = true := by simpa using c1
  rw [k_isSum, i1_0, e7]
  refine ⟨fun c2 => ?_, fun c2 => bad _ (by rw [if_pos h0, if_neg (fun q => by rw [q.2] at c2; cases c2)])⟩
  have c2 : inB 1 30 y = true := by simpa using c2
  rw [nIlt (by omega) (by omega)]
  refine ⟨fun w7 => ?_, fun w7 => bad _ (by rw [if_pos h0, if_pos ⟨c1, c2⟩]; exact ⟨by omega, rfl⟩)⟩
  obtain ⟨d, -, hd, rfl⟩ := inB_of (by omega) (by omega) c1
  obtain ⟨s, hs1, hs, rfl⟩ := inB_of (by omega) (by omega) c2
  obtain ⟨pp, hp⟩ := fr_ex w7
  refine c_begin p c (fun J jc j9 j10 jf => ?_)
  have wg := p.1.come hd hs1 hs w7 hp
  have main : wp_X1_join 0 (nI d) (nI s) J (fun r2 I1 => wp_X8_come (nI d) (nI s) I1 (fun r' K => r2 = r' ∧ INV K)) := by
    refine c_join jc.1 p.1 w7 hp hd (fun L lb lo => ?_)
    have lf : ∀ a k, ¬ (a < 8 ∨ (40 ≤ a ∧ a < 232) ∨ a = 303 ∨ a = 308) → L a k = I a k := fun a k z => by rw [lo a (by omega)]; exact jf a k (by omega)
    have lm : AM L f sz h := m.fr p.2.2.1 (fun k hk => lf _ _ (by omega)) ⟨lf _ _ (by omega), lf _ _ (by omega)⟩
    have l7 : L 316 7 = nI (tw f) := by rw [lm.1 7 (by omega), hw.1]
    unfold wp_X8_come
    rw [m_inE _ _ _ _ _ (by omega) (by omega), m_inE _ _ _ _ _ (by omega) (by omega), lm.2.2.1, decide_eq_true h0, i1_0, i1_0, i1_0, c1, c2]
    have n7 : ¬ tw f = 7 := by omega
    simp (disch := omega) only [Bool.true_eq_false, Bool.false_eq_true, false_implies, true_implies, not_true_eq_false, not_false_eq_true, and_true, true_and, nIvp, nIcl, l7, nIeq, n7]
    refine ⟨by omega, m_keep p lm h0 (fun K kk kf => ?_)⟩
    rw [← kk.self]
    refine m_comes (by omega) p.1 w7 hp ⟨rfl, v.fin (lt := lt) p h0 (jc.put lb lo) (by rw [lo _ (by omega)]; exact j9) (by rw [lo _ (by omega)]; exact j10) lf kk kf wg cT_n⟩
  unfold wp_X7_come_63
  rw [nIeq (by omega) (by omega)]
  have : d = 0 ∨ d = 1 := by omega
  rcases this with rfl | rfl
  · exact ⟨fun _ => main, fun q => absurd q (by omega)⟩
  · exact ⟨fun q => absurd rfl q, fun _ => main⟩

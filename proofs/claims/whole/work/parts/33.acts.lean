/-! ===== pure: serve, counter, dismiss, swap, undo, image, restore ===== -/
theorem INV.ok {I : II} (v : INV I) : ∃ f sz lt h, PH f sz h ∧ AC I f sz lt h ∧ AM I f sz h := by
  obtain ⟨f, sz, lt, h, p, c, m, -⟩ := v
  exact ⟨f, sz, lt, h, p, c, m⟩
def hZ (sz : Nat) : Nat → Nat
  | 0 => sz
  | t + 1 => upZ (hZ sz t)
def hL (lt : Nat) : Nat → Nat
  | 0 => lt
  | t + 1 => (hL lt t + 1) % 24
def hH (f : TW) (h : Nat → TW) : Nat → (Nat → TW)
  | 0 => h
  | t + 1 => shH (itF f t) (hH f h t)
theorem hP {f : TW} {sz : Nat} {h : Nat → TW} (p : PH f sz h) (h0 : 0 < tn f) : ∀ t, PH (itF f t) (hZ sz t) (hH f h t) := by
  intro t
  induction t with
  | zero => exact p
  | succ t ih =>
    have e := itF_n p.1 t
    exact (ih.act (by omega)).new (itF_wf p.1 (t + 1)) (by rw [itF_n p.1]; exact h0)
section ACTS
variable {I : II} {f : TW} {sz lt : Nat} {h : Nat → TW}
theorem c_sv_loop {Q : Int32 → II → Prop} {k : II → Prop} {n : Nat} (p : PH f sz h) (h0 : 0 < tn f) (hn : n < 2147483648) (hk : ∀ J, AC J (itF f n) (hZ sz n) (hL lt n) (hH f h n) → (0 < n → J 308 9 = nI 0 ∧ J 308 10 = nI 0) → (∀ a q, ¬ (a < 8 ∨ (40 ≤ a ∧ a < 232) ∨ a = 303 ∨ a = 308) → J a q = I a q) → k J) : ∀ (d t : Nat) (J : II), t + d = n → AC J (itF f t) (hZ sz t) (hL lt t) (hH f h t) → (0 < t → J 308 9 = nI 0 ∧ J 308 10 = nI 0) → (∀ a q, ¬ (a < 8 ∨ (40 ≤ a ∧ a < 232) ∨ a = 303 ∨ a = 308) → J a q = I a q) → wp_X7_serve_47 Q k (d + 1) (nI n) (nI t) J := by
  intro d
  induction d with
  | zero =>
    intro t J ht c o fr
    rw [wp_X7_serve_47.eq_2]
    have e : t = n := by omega
    subst e
    simp (disch := omega) only [nIle, Nat.le_refl, Bool.true_eq_false, Bool.false_eq_true, false_implies, true_implies, not_true_eq_false, not_false_eq_true, and_true, true_and]
    exact hk J c o fr
  | succ d ih =>
    intro t J ht c o fr
    have cc : ¬ n ≤ t := by omega
    have pt := hP p h0 t
    have e0 := itF_n p.1 t
    rw [wp_X7_serve_47.eq_2]
    simp (disch := omega) only [nIle, cc, Bool.true_eq_false, Bool.false_eq_true, false_implies, true_implies, not_true_eq_false, not_false_eq_true, and_true, true_and, nI_add]
    refine c_begin pt c (fun K kc k9 k10 kf => c_passTurn kc.1 pt.1 (by omega) (fun L lb lo => ?_))
    refine ih (t + 1) L (by omega) (kc.put lb lo) (fun _ => ⟨by rw [lo _ (by omega)]; exact k9, by rw [lo _ (by omega)]; exact k10⟩) (fun a q z => ?_)
    rw [lo a (by omega), kf a q (by omega), fr a q z]
theorem m_sv_loop {Q : Int32 → II → Prop} {k : II → Prop} {n : Nat} (p : PH f sz h) (h0 : 0 < tn f) (hn : n < 2147483648) (hk : ∀ J, AM J (itF f n) (hZ sz n) (hH f h n) → (∀ a q, ¬ (a = 316 ∧ q < 1225) → ¬ (a = 315 ∧ q = 2) → J a q = I a q) → k J) : ∀ (d t : Nat) (J : II), t + d = n → AM J (itF f t) (hZ sz t) (hH f h t) → (∀ a q, ¬ (a = 316 ∧ q < 1225) → ¬ (a = 315 ∧ q = 2) → J a q = I a q) → wp_X8_serve_44 Q k (d + 1) (nI n) (nI t) J := by
  intro d
  induction d with
  | zero =>
    intro t J ht m fr
    rw [wp_X8_serve_44.eq_2]
    have e : t = n := by omega
    subst e
    simp (disch := omega) only [nIle, Nat.le_refl, Bool.true_eq_false, Bool.false_eq_true, false_implies, true_implies, not_true_eq_false, not_false_eq_true, and_true, true_and]
    exact hk J m fr
  | succ d ih =>
    intro t J ht m fr
    have cc : ¬ n ≤ t := by omega
    have pt := hP p h0 t
    have e0 := itF_n p.1 t
    rw [wp_X8_serve_44.eq_2]
    simp (disch := omega) only [nIle, cc, Bool.true_eq_false, Bool.false_eq_true, false_implies, true_implies, not_true_eq_false, not_false_eq_true, and_true, true_and, nI_add]
    refine m_keep pt m (by omega) (fun K km kf => ?_)
    rw [← km.self]
    refine m_pass (b := 0) (by omega) pt.1 ?_
    refine ih (t + 1) _ (by omega) (km.put (upZ_le _) (tn_pass pt.1)) (fun a q z1 z2 => ?_)
    by_cases ha : a = 316
    · subst ha
      rw [pT_row (by omega), kf _ _ (by omega) z2, fr _ _ z1 z2]
    · rw [pT_oth ha, kf a q (by omega) z2, fr a q z1 z2]
end ACTS
theorem s_serve (x : Int32) : SIM (wp_X7_serve x) (wp_X8_serve x) := by
  intro I v
  obtain ⟨f, sz, lt, h, p, c, m⟩ := v.ok
  have n0 : (nI 0 : Int32) = 0 := rfl
  unfold wp_X7_serve
  rw [c_isThere c.1 p.1, i1_0]
  have mdl : ∀ (w : Int32) (J : II), INV J → J 315 1 = I 315 1 → J 316 3 = f 3 → ((tn f = 0 → w = -nI 1000002) ∧ (0 < tn f → (inB 1 24 x = false → w = -nI 1000001) ∧ (inB 1 24 x = true → ¬ f 3 + x ≤ nI 999 ∧ w = -nI 1000003))) → wp_X8_serve x J (fun r' K => w = r' ∧ INV K) := by
    intro w J vj e1 e3 hw
    unfold wp_X8_serve
    rw [e1, m.2.2.1, i1_0, m_inE _ _ _ _ _ (by omega) (by omega), i1_0]
    simp (disch := omega) only [nIvp, nIcl, e3, decide_eq_false_iff_not]
    refine ⟨fun c1 => ⟨fun c2 => ⟨by omega, fun c3 => ?_, fun c3 => ?_⟩, fun c2 => ?_⟩, fun c1 => ⟨hw.1 (by omega), vj⟩⟩
    · exact absurd c3 ((hw.2 (by omega)).2 (by simpa using c2)).1
    · exact ⟨((hw.2 (by omega)).2 (by simpa using c2)).2, vj⟩
    · exact ⟨(hw.2 (by omega)).1 c2, vj⟩
  have e3 := m.1 3 (by omega)
  by_cases h0 : 0 < tn f
  · simp only [h0, decide_true, Bool.true_eq_false, Bool.false_eq_true, false_implies, true_implies, not_true_eq_false, not_false_eq_true, and_true, true_and]
    rw [c.1.1.2.2.2.2.1]
    have hb : (x < nI 1) = ¬ nI 1 ≤ x := by rw [i32_le, Classical.not_not]
    rw [hb, Classical.not_not]
    refine ⟨fun c1 => ?_, fun c1 => ⟨fun c2 => ⟨fun c3 => ?_, fun c3 => ?_⟩, fun c2 => ?_⟩⟩
    · exact mdl _ I v rfl e3 ⟨fun q => by omega, fun _ => ⟨fun _ => rfl, fun q => absurd q (by simp [inB, c1])⟩⟩
    · have hin : inB 1 24 x = true := by simp [inB, c1, c2]
      obtain ⟨n, n1, n24, rfl⟩ := inB_of (by omega) (by omega) hin
      refine ⟨n + 1, c_sv_loop (I := I) (n := n) p h0 (by omega) (fun J jc j0 jf => ?_) n 0 I (by omega) c (fun q => by omega) (fun _ _ _ => rfl)⟩
      have jm : AM J f sz h := m.fr p.2.2.1 (fun k hk => jf _ _ (by omega)) ⟨jf _ _ (by omega), jf _ _ (by omega)⟩
      unfold wp_X8_serve
      have e1 : J 315 1 = i1 (decide (0 < tn f)) := by rw [jf _ _ (by omega)]; exact m.2.2.1
      have e3' : J 316 3 = f 3 := by rw [jf _ _ (by omega)]; exact e3
      rw [e1, i1_0, m_inE _ _ _ _ _ (by omega) (by omega), i1_0, hin]
      simp (disch := omega) only [h0, decide_true, Bool.true_eq_false, Bool.false_eq_true, false_implies, true_implies, not_true_eq_false, not_false_eq_true, and_true, true_and, nIvp, nIcl, e3', c3]
      refine ⟨by omega, n + 1, m_sv_loop (I := J) (n := n) p h0 (by omega) (fun K km kf => ?_) n 0 J (by omega) jm (fun _ _ _ _ => rfl)⟩
      have e7 : K 316 7 = itF f n 7 := km.1 7 (by omega)
      simp (disch := omega) only [nIvp, nIcl, e7]
      refine ⟨by omega, jc.1.1.2.2.2.2.2.2.2, v.act (fun a k a1 a2 => ?_) (hP p h0 n) (jc.fr (fun a ha => funext fun k => kf a k (by omega) (by omega))) km ⟨by rw [kf _ _ (by omega) (by omega)]; exact (j0 (by omega)).1, by rw [kf _ _ (by omega) (by omega)]; exact (j0 (by omega)).2⟩ (by rw [itF_n p.1]; exact h0)⟩
      rw [kf a k (fun z => a1 (by unfold dA; omega)) (fun z => a1 (by unfold dA; omega)), jf a k (fun z => a1 (by unfold dA; omega))]
    · exact mdl _ I v rfl e3 ⟨fun q => by omega, fun _ => ⟨fun q => absurd q (by simp [inB, c1, c2]), fun _ => ⟨c3, rfl⟩⟩⟩
    · exact mdl _ I v rfl e3 ⟨fun q => by omega, fun _ => ⟨fun _ => rfl, fun q => absurd q (by simp [inB, c2])⟩⟩
  · simp only [h0, decide_false, Bool.true_eq_false, Bool.false_eq_true, false_implies, true_implies, not_true_eq_false, not_false_eq_true, and_true, true_and]
    exact mdl _ I v rfl e3 ⟨fun _ => rfl, fun q => absurd q h0⟩
theorem s_counter (x y : Int32) : SIM (wp_X7_counter x y) (wp_X8_counter x y) := by
  intro I v
  obtain ⟨f, sz, lt, h, p, c, m⟩ := v.ok
  have e6 := m.1 6 (by omega)
  unfold wp_X7_counter
  rw [c_hasTeller c.1 p.1, i1_0]
  cases hb : hT f x with
  | false =>
    simp only [Bool.true_eq_false, Bool.false_eq_true, false_implies, true_implies, not_true_eq_false, not_false_eq_true, and_true, true_and]
    unfold wp_X8_counter
    rw [m_isTeller m.1 p.1, hb, i1_0]
    simp only [Bool.true_eq_false, Bool.false_eq_true, false_implies, true_implies, not_true_eq_false, not_false_eq_true, and_true, true_and]; exact v
  | true =>
  obtain ⟨t, ht, rfl⟩ := hT_of p.1 hb
  have n4 := p.1.n.2
  have t4 : t < 4 := by omega
  have h0 : 0 < tn f := by omega
  rw [k_isChoice, i1_0]
  cases hy : inB 0 1 y with
  | false =>
    simp only [Bool.true_eq_false, Bool.false_eq_true, false_implies, true_implies, not_true_eq_false, not_false_eq_true, and_true, true_and]
    unfold wp_X8_counter
    rw [m_isTeller m.1 p.1, hb, i1_0, m_inE _ _ _ _ _ (by omega) (by omega), hy, i1_0]
    simp only [Bool.true_eq_false, Bool.false_eq_true, false_implies, true_implies, not_true_eq_false, not_false_eq_true, and_true, true_and]; exact v
  | true =>
  simp only [Bool.true_eq_false, Bool.false_eq_true, false_implies, true_implies, not_true_eq_false, not_false_eq_true, and_true, true_and]
  rw [c_isOpen c.1 t4]
  have key : ∀ b : Bool, (y = nI 1) = (b = true) → wp_X7_counter_39 (fun r J => wp_X8_counter (nI t) y J (fun r' K => r = r' ∧ INV K)) (nI t) (i1 b) (i1 (opT f t)) I := by
    intro b hyb
    have mdl : ∀ (J : II) (Q : Int32 → II → Prop), AM J f sz h → wp_X8_counter_42 Q (nI t) (i1 b) (i1 (opT f t)) J → wp_X8_counter (nI t) y J Q := by
      intro J Q jm hq
      unfold wp_X8_counter
      rw [m_isTeller jm.1 p.1, hb, i1_0, m_inE _ _ _ _ _ (by omega) (by omega), hy, i1_0]
      simp (disch := omega) only [Bool.true_eq_false, Bool.false_eq_true, false_implies, true_implies, not_true_eq_false, not_false_eq_true, and_true, true_and, nIvp, nIcl, jm.1 6 (by omega), m_has, opT_r, hyb]
      refine ⟨by omega, fun c1 => ?_, fun c1 => ?_⟩
      · have : b = false := by simpa using c1
        rw [this] at hq; exact hq
      · rw [c1] at hq; exact hq
    unfold wp_X7_counter_39
    refine ⟨fun c1 => ?_, fun c1 => mdl I _ m ?_⟩
    · refine c_begin p c (fun J jc j9 j10 jf => ?_)
      simp only [forall_eq, su_eq]
      rw [jc.1.1.2.2.2.1]
      have jm : AM J f sz h := m.fr p.2.2.1 (fun k hk => jf _ _ (by omega)) ⟨jf _ _ (by omega), jf _ _ (by omega)⟩
      have hb3 := jc.1.num 3 6 (f 6 ^^^ nI 1 <<< (nI t &&& 31)) (by omega)
      have km : AM (su J (8 * 0) 3 (f 6 ^^^ nI 1 <<< (nI t &&& 31))) f sz h := jm.fr p.2.2.1 (fun k hk => by rw [su_cell (by omega)]) ⟨by rw [su_cell (by omega)], by rw [su_cell (by omega)]⟩
      refine mdl _ _ km ?_
      unfold wp_X8_counter_42
      refine ⟨fun _ => ?_, fun c2 => absurd c2 c1⟩
      refine m_keep p km h0 (fun K kk kf => ?_)
      have k6 := kk.1 6 (by omega)
      simp (disch := omega) only [nIvp, nIcl, k6, forall_eq, su_eq]
      refine ⟨by omega, by omega, by omega, trivial, ?_⟩
      rw [m_set0 kk (by omega)]
      have pa := p.act h0
      have eg : tn (upd f 6 (f 6 ^^^ nI 1 <<< (nI t &&& 31))) = tn f := by rw [tn, tn, upd_ne (by omega)]
      have wg : WF (upd f 6 (f 6 ^^^ nI 1 <<< (nI t &&& 31))) := p.1.ch (fun q hq => upd_ne (by omega)) (fun t ht => by rw [upd_ne (by omega)]; exact (p.1.te ht).2.2.2)
      have fr : ∀ a k, ¬ (a = 316 ∧ k < 1225) → ¬ (a = 315 ∧ k = 2) → pT K 0 (upd f 6 (f 6 ^^^ nI 1 <<< (nI t &&& 31))) a k = su J (8 * 0) 3 (f 6 ^^^ nI 1 <<< (nI t &&& 31)) a k := fun a k a1 a2 => by
        by_cases ha : a = 316
        · subst ha; rw [pT_row (by omega), kf _ _ (by omega) a2]
        · rw [pT_oth ha, kf _ _ (by omega) a2]
      refine v.act (fun a k a1 a2 => ?_) (pa.new wg (by omega)) ((jc.put hb3 ((OUT.rf 0 J).su (by omega))).fr (fun a ha => funext fun k => fr a k (by omega) (by omega))) (kk.put (upZ_le _) eg) ⟨by rw [fr _ _ (by omega) (by omega), su_cell (by omega)]; exact j9, by rw [fr _ _ (by omega) (by omega), su_cell (by omega)]; exact j10⟩ (by omega)
      rw [fr a k (fun z => a1 (by unfold dA; omega)) (fun z => a1 (by unfold dA; omega)), su_cell (fun z => a1 (by unfold dA; omega)), jf a k (fun z => a1 (by unfold dA; omega))]
    · unfold wp_X8_counter_42
      exact ⟨fun c2 => absurd c1 c2, fun _ => ⟨rfl, v⟩⟩
  refine ⟨fun c1 => key false (by simp [c1]), fun c1 => key true (by simp [c1])⟩

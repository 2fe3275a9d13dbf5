/-! ===== pure: what can be undone ===== -/
def shH (f : TW) (h : Nat → TW) : Nat → TW := fun i => if i = 0 then f else h (i - 1)
def upZ (sz : Nat) : Nat := if 24 < sz + 1 then 24 else sz + 1
theorem upZ_le (sz : Nat) : upZ sz ≤ 24 := by unfold upZ; split <;> omega
def dA (a k : Nat) : Prop := a < 8 ∨ (40 ≤ a ∧ a < 232) ∨ a = 303 ∨ a = 308 ∨ (a = 316 ∧ k < 1225) ∨ (a = 315 ∧ (k = 1 ∨ k = 2))
theorem INV.act {I J : II} {f : TW} {sz lt : Nat} {h : Nat → TW} (v : INV I) (e : ∀ a k, ¬ dA a k → ¬ scr a k → J a k = I a k) (p : PH f sz h) (c : AC J f sz lt h) (m : AM J f sz h) (o : J 308 9 = nI 0 ∧ J 308 10 = nI 0) (h0 : 0 < tn f) : INV J := by
  have ec : ∀ a, (∀ k, ¬ dA a k) → (∀ k, ¬ scr a k) → J a = I a := fun a h1 h2 => funext fun k => e a k (h1 k) (h2 k)
  obtain ⟨f', sz', lt', h', p', c', m', o', i, r, t, ms, k⟩ := v
  refine ⟨f, sz, lt, h, p, c, m, ⟨Or.inl o.1, Or.inl o.2⟩, i.fr (fun q hq => ec q (fun k z => by unfold dA at z; omega) (fun k z => by unfold scr at z; omega)) (fun k h1 h2 => e 316 k (fun z => by unfold dA at z; omega) (fun z => by unfold scr at z; omega)) (fun _ => by rw [m.2.2.1, decide_eq_true h0]; rfl), r.fr (fun q hq => ec q (fun k z => by unfold dA at z; omega) (fun k z => by unfold scr at z; omega)), t.fr ⟨?_, ?_⟩ ⟨?_, ?_⟩, ms.fr ⟨?_, ?_, ?_, ?_⟩, k.fr ⟨?_, ?_⟩ ⟨?_, ?_⟩⟩
  all_goals first | exact ec _ (fun k z => by unfold dA at z; omega) (fun k z => by unfold scr at z; omega) | exact e _ _ (fun z => by unfold dA at z; omega) (fun z => by unfold scr at z; omega)
section ACT
variable {I : II} {f : TW} {sz lt : Nat} {h : Nat → TW}
theorem PH.act (p : PH f sz h) (h0 : 0 < tn f) : PH f (upZ sz) (shH f h) := by
  obtain ⟨p1, p2, p3, p4, p5⟩ := p
  refine ⟨p1, p2, upZ_le sz, fun _ => h0, fun i hi => ?_⟩
  unfold shH
  by_cases e : i = 0
  · rw [if_pos e]; exact ⟨p1, h0⟩
  · rw [if_neg e]
    refine p5 (i - 1) ?_
    unfold upZ at hi
    split at hi <;> omega
theorem PH.new {g : TW} (p : PH f sz h) (hg : WF g) (h0 : 0 < tn g) : PH g sz h := ⟨hg, fun e => by omega, p.2.2.1, fun _ => h0, p.2.2.2.2⟩
theorem c_forget {Q : II → Prop} (hq : ∀ J, J 308 9 = nI 0 → J 308 10 = nI 0 → (∀ a k, ¬ (a = 308 ∧ (k = 9 ∨ k = 10)) → J a k = I a k) → Q J) : wp_X5_forget I Q := by
  unfold wp_X5_forget
  simp only [forall_eq]
  exact hq _ (by rw [su2 (by omega), su_eq]) (su_eq _ _ _ _) (fun a k z => by rw [su2 (by omega), su2 (by omega)])
theorem c_begin {Q : II → Prop} (p : PH f sz h) (c : AC I f sz lt h) (hq : ∀ J, AC J f (upZ sz) ((lt + 1) % 24) (shH f h) → J 308 9 = nI 0 → J 308 10 = nI 0 → (∀ a k, ¬ ((40 ≤ a ∧ a < 232) ∨ a = 303 ∨ a = 308) → J a k = I a k) → Q J) : wp_X7_beginAct I Q := by
  obtain ⟨c1, c2, c3, c4, c5⟩ := c
  have sz24 := p.2.2.1
  have n4 := p.1.n.2
  have w7 := p.1.w.2
  unfold wp_X7_beginAct wp_X3_keep
  have l24 : (lt + 1) % 24 < 24 := Nat.mod_lt _ (by omega)
  have e1 : nI lt + nI 1 - (nI lt + nI 1) / nI 24 * nI 24 = nI ((lt + 1) % 24) := by rw [nI_add, pk_rem (by omega) (by omega) (by omega)]
  rw [c3, e1]
  simp (disch := omega) only [forall_eq, su_eq, nIvp, nIcl, l24, true_and]
  refine ⟨by decide, c_takeAll (by omega) (fun J hJ => ?_)⟩
  have hO := hJ.2.2.2
  have j303 : J 303 = su I 303 1 (nI ((lt + 1) % 24)) 303 := hO 303 (by omega)
  have e2 : J 303 2 = nI sz := by rw [j303, su_slot (by omega), c2]
  have e3 : (if nI 24 < nI sz + nI 1 then nI 24 else nI sz + nI 1) = nI (upZ sz) := by
    unfold upZ
    rw [nI_add]
    by_cases q : 24 < sz + 1
    · rw [if_pos q, if_pos (by rw [nIlt (by omega) (by omega)]; exact q)]
    · rw [if_neg q, if_neg (by rw [nIlt (by omega) (by omega)]; exact q)]
  rw [e2, e3]
  refine c_forget (fun K k1 k2 k3 => hq K ⟨?_, ?_, ?_, l24, fun i hi => ?_⟩ k1 k2 (fun a k z => ?_))
  · have hb := c1.fr (J := su I 303 1 (nI ((lt + 1) % 24))) (fun a a1 a2 => su_cell (by omega))
    refine (hb.fr (J := J) (fun a a1 a2 => hO a (by omega))).fr (fun a a1 a2 => funext fun k => ?_)
    rw [k3 a k (by omega), su_cell (by omega)]
  · rw [k3 _ _ (by omega), su_eq]
  · rw [k3 _ _ (by omega), su_slot (by omega), j303, su_eq]
  · have fr : ∀ a, a ≠ 303 → a ≠ 308 → K a = J a := fun a a1 a2 => funext fun k => by rw [k3 a k (by omega), su_cell a1]
    unfold shH
    by_cases e : i = 0
    · subst e
      rw [if_pos rfl]
      have e5 : ((lt + 1) % 24 + 24 - 0) % 24 = (lt + 1) % 24 := by omega
      rw [e5]
      have hb := c1.fr (J := su I 303 1 (nI ((lt + 1) % 24))) (fun a a1 a2 => su_cell (by omega))
      exact (hJ.bk hb n4 w7).fr (fun a a1 a2 => fr a (by omega) (by omega))
    · rw [if_neg e]
      have hi' : i - 1 < sz := by unfold upZ at hi; split at hi <;> omega
      have hi2 : i - 1 < 23 := by unfold upZ at hi; split at hi <;> omega
      have e5 : ((lt + 1) % 24 + 24 - i) % 24 = (lt + 24 - (i - 1)) % 24 := by omega
      rw [e5]
      refine (c5 (i - 1) hi').fr (fun a a1 a2 => ?_)
      rw [fr a (by omega) (by omega), hO a (by omega), su_cell (by omega)]
  · rw [k3 a k (by omega), su_cell (by omega), hO a (by omega), su_cell (by omega)]
theorem m_kp_loop {Q k : II → Prop} {J : II} (hu : J 315 2 = nI 24) (hk : ∀ K, (∀ a, a ≠ 316 → K a = J a) → (∀ q, K 316 q = if 49 ≤ q ∧ q < 1176 then J 316 (q + 49) else J 316 q) → k K) : ∀ (d t : Nat) (K : II), t + d = 1127 → (∀ a, a ≠ 316 → K a = J a) → (∀ q, K 316 q = if 49 ≤ q ∧ q < 49 + t then J 316 (q + 49) else J 316 q) → ∃ N, wp_X8_keepPast_2 Q k N (nI t) K := by
  intro d
  induction d with
  | zero =>
    intro t K ht h1 h2
    refine ⟨1, ?_⟩
    rw [wp_X8_keepPast_2.eq_2]
    have e : t = 1127 := by omega
    subst e
    simp (disch := omega) only [nIle, Nat.le_refl, Bool.true_eq_false, Bool.false_eq_true, false_implies, true_implies, not_true_eq_false, not_false_eq_true, and_true, true_and]
    exact hk K h1 h2
  | succ d ih =>
    intro t K ht h1 h2
    have g1 : 98 + t < 1372 := by omega
    have g2 : 49 + t < 1372 := by omega
    have c : ¬ 1127 ≤ t := by omega
    have e2 : K 315 2 = nI 24 := by rw [h1 _ (by omega)]; exact hu
    have e3 : K 316 (98 + t) = J 316 (98 + t) := by rw [h2, if_neg (by omega)]
    obtain ⟨N, hN⟩ := ih (t + 1) (su K 316 (49 + t) (J 316 (98 + t))) (by omega) (fun a ha => by rw [su_cell ha]; exact h1 a ha) (fun q => by
      by_cases e : q = 49 + t
      · subst e; rw [su_eq, if_pos (by omega)]; congr 1; omega
      · rw [su_slot e, h2]
        by_cases h3 : 49 ≤ q ∧ q < 49 + t
        · rw [if_pos h3, if_pos (by omega)]
        · rw [if_neg h3, if_neg (by omega)])
    refine ⟨N + 1, ?_⟩
    rw [wp_X8_keepPast_2.eq_2]
    simp (disch := omega) only [nIle, c, Bool.true_eq_false, Bool.false_eq_true, false_implies, true_implies, not_true_eq_false, not_false_eq_true, and_true, true_and, e2, nI_add, nIvp, nIcl, g1, g2, e3, forall_eq]
    exact hN
theorem m_keep {Q : II → Prop} (p : PH f sz h) (m : AM I f sz h) (h0 : 0 < tn f) (hq : ∀ J, AM J f (upZ sz) (shH f h) → (∀ a k, ¬ (a = 316 ∧ 49 ≤ k ∧ k < 1225) → ¬ (a = 315 ∧ k = 2) → J a k = I a k) → Q J) : wp_X8_keepPast I Q := by
  obtain ⟨m1, m2, m3, m4⟩ := m
  have sz24 := p.2.2.1
  have i1t : decide (0 < tn f) = true := decide_eq_true h0
  unfold wp_X8_keepPast
  by_cases e24 : sz = 24
  · subst e24
    refine m_kp_loop m2 (fun K k1 k2 => ?_) 1127 0 I (by omega) (fun _ _ => rfl) (fun q => by rw [if_neg (by omega)])
    unfold wp_X8_keepPast_42 wp_X8_keepPast_61
    have e2 : K 315 2 = nI 24 := by rw [k1 _ (by omega)]; exact m2
    have e3 : nI 24 - nI 1 = nI 23 := by decide
    have e4 : nI 49 + nI 49 * nI 23 = nI 1176 := by decide
    simp (disch := omega) only [e2, Bool.true_eq_false, Bool.false_eq_true, false_implies, true_implies, not_true_eq_false, not_false_eq_true, and_true, true_and, forall_eq, e3, su_eq, e4]
    refine m_copyTown (a := 0) (b := 1176) (f := f) (by omega) (by omega) (by omega) (fun q hq => by rw [Nat.zero_add, su_cell (by omega), k2, if_neg (by omega)]; exact m1 q hq) ?_
    have e5 : pT (su K 315 2 (nI 23)) 1176 f 315 2 = nI 23 := by rw [pT_oth (by omega), su_eq]
    have e6 : nI 23 + nI 1 = nI 24 := by decide
    rw [e5, e6]
    have row : ∀ q, su (pT (su K 315 2 (nI 23)) 1176 f) 315 2 (nI 24) 316 q = if 1176 ≤ q ∧ q < 1225 then f (q - 1176) else if 49 ≤ q ∧ q < 1176 then I 316 (q + 49) else I 316 q := fun q => by
      rw [su_cell (by omega)]
      unfold pT
      by_cases c : 1176 ≤ q ∧ q < 1225
      · rw [if_pos (by omega), if_pos c]
      · rw [if_neg (by omega), if_neg c, su_cell (by omega), k2]
    have oth : ∀ a k, a ≠ 316 → ¬ (a = 315 ∧ k = 2) → su (pT (su K 315 2 (nI 23)) 1176 f) 315 2 (nI 24) a k = I a k := fun a k a1 a2 => by
      rw [su2 a2, pT_oth a1, su2 a2, k1 a a1]
    refine hq _ ⟨fun q hq2 => ?_, ?_, ?_, fun i hi q hq2 => ?_⟩ (fun a k a1 a2 => ?_)
    · rw [row, if_neg (by omega), if_neg (by omega)]; exact m1 q hq2
    · rw [su_eq]; rfl
    · rw [oth _ _ (by omega) (by omega)]; exact m3
    · have u : upZ 24 = 24 := rfl
      rw [u] at hi ⊢
      unfold shH
      by_cases e : i = 0
      · subst e
        rw [if_pos rfl, row, if_pos (by omega)]
        exact congrArg f (by omega)
      · rw [if_neg e, row, if_neg (by omega), if_pos (by omega), ← m4 (i - 1) (by omega) q hq2]
        congr 1; omega
    · by_cases ha : a = 316
      · subst ha
        rw [row, if_neg (by omega), if_neg (by omega)]
      · exact oth a k ha a2
  · refine ⟨1, ?_⟩
    rw [wp_X8_keepPast_2.eq_2]
    have c : ¬ 1127 ≤ 0 := by omega
    unfold wp_X8_keepPast_42 wp_X8_keepPast_61
    have c2 : ¬ sz = 24 := e24
    have e3 : nI sz - nI 0 = nI sz := by rw [nIsub (by omega)]; rfl
    have e4 : nI 49 + nI 49 * nI sz = nI (49 + 49 * sz) := by rw [pk_mul, nI_add]
    simp (disch := omega) only [nIle, c, m2, nIeq, c2, Bool.true_eq_false, Bool.false_eq_true, false_implies, true_implies, not_true_eq_false, not_false_eq_true, and_true, true_and, forall_eq, e3, su_eq, e4]
    refine m_copyTown (a := 0) (b := 49 + 49 * sz) (f := f) (by omega) (by omega) (by omega) (fun q hq => by rw [Nat.zero_add, su_cell (by omega)]; exact m1 q hq) ?_
    have e5 : pT (su I 315 2 (nI sz)) (49 + 49 * sz) f 315 2 = nI sz := by rw [pT_oth (by omega), su_eq]
    rw [e5, nI_add]
    have row : ∀ q, su (pT (su I 315 2 (nI sz)) (49 + 49 * sz) f) 315 2 (nI (sz + 1)) 316 q = if 49 + 49 * sz ≤ q ∧ q < 49 + 49 * sz + 49 then f (q - (49 + 49 * sz)) else I 316 q := fun q => by
      rw [su_cell (by omega)]
      unfold pT
      by_cases c : 49 + 49 * sz ≤ q ∧ q < 49 + 49 * sz + 49
      · rw [if_pos (by omega), if_pos c]
      · rw [if_neg (by omega), if_neg c, su_cell (by omega)]
    have oth : ∀ a k, a ≠ 316 → ¬ (a = 315 ∧ k = 2) → su (pT (su I 315 2 (nI sz)) (49 + 49 * sz) f) 315 2 (nI (sz + 1)) a k = I a k := fun a k a1 a2 => by
      rw [su2 a2, pT_oth a1, su2 a2]
    have u : upZ sz = sz + 1 := by unfold upZ; rw [if_neg (by omega)]
    refine hq _ ⟨fun q hq2 => ?_, ?_, ?_, fun i hi q hq2 => ?_⟩ (fun a k a1 a2 => ?_)
    · rw [row, if_neg (by omega)]; exact m1 q hq2
    · rw [su_eq, u]
    · rw [oth _ _ (by omega) (by omega)]; exact m3
    · rw [u] at hi ⊢
      unfold shH
      by_cases e : i = 0
      · subst e
        rw [if_pos rfl, row, if_pos (by omega)]
        exact congrArg f (by omega)
      · rw [if_neg e, row, if_neg (by omega), ← m4 (i - 1) (by omega) q hq2]
        congr 1; omega
    · by_cases ha : a = 316
      · subst ha
        rw [row, if_neg (by omega)]
      · exact oth a k ha a2
theorem AC.put {J : II} {g : TW} (c : AC I f sz lt h) (hb : BK True J 0 g) (hO : OUT 0 I J) : AC J g sz lt h := by
  obtain ⟨c1, c2, c3, c4, c5⟩ := c
  exact ⟨hb, by rw [hO _ (by omega)]; exact c2, by rw [hO _ (by omega)]; exact c3, c4, fun i hi => (c5 i hi).fr (fun a a1 a2 => hO a (by omega))⟩
theorem AM.put {g : TW} (m : AM I f sz h) (hz : sz ≤ 24) (e : tn g = tn f) : AM (pT I 0 g) g sz h := by
  obtain ⟨m1, m2, m3, m4⟩ := m
  refine ⟨fun q hq => ?_, by rw [pT_oth (by omega)]; exact m2, by rw [pT_oth (by omega), e]; exact m3, fun i hi q hq => by rw [pT_row (by omega)]; exact m4 i hi q hq⟩
  have := pT_get (I := I) (b := 0) (f := g) hq
  rw [Nat.zero_add] at this; exact this
theorem AM.self (m : AM I f sz h) : pT I 0 f = I := pT_I (fun q hq => by rw [Nat.zero_add]; exact m.1 q hq)
theorem m_set0 {k : Nat} {v : Int32} (m : AM I f sz h) (hk : k < 49) : su I 316 k v = pT I 0 (upd f k v) := by
  have := pT_set (I := I) (b := 0) (f := f) (v := v) hk
  rw [m.self, Nat.zero_add] at this; exact this
end ACT

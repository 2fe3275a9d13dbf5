/-! ===== twins ===== -/
def eqB (f : TW) (a b : Nat) : Bool := decide (f (41 + a) = f (41 + b))
def tiC (f : TW) (t : Nat) : Nat → Nat → Nat
  | 0, _ => 0
  | d + 1, o => (if eqB f t o then 1 else 0) + tiC f t d (o + 1)
def toC (f : TW) (n : Nat) : Nat → Nat → Nat
  | 0, _ => 0
  | d + 1, t => tiC f t (n - (t + 1)) (t + 1) + toC f n d (t + 1)
def tiF (f : TW) (t : Nat) (x : Int32) : Nat → Nat → Int32
  | 0, _ => x
  | d + 1, o => if eqB f t o then nI (10 * t + o) else tiF f t x d (o + 1)
def toF (f : TW) (n : Nat) : Nat → Nat → Int32
  | 0, _ => (-nI 1000000)
  | d + 1, t => tiF f t (toF f n d (t + 1)) (n - (t + 1)) (t + 1)
theorem tiC_le (f : TW) (t : Nat) : ∀ d o, tiC f t d o ≤ d := by
  intro d
  induction d with
  | zero => intro o; exact Nat.le_refl _
  | succ d ih => intro o; rw [tiC]; have := ih (o + 1); split <;> omega
section TWIN
variable {s : Prop} {I : II} {f : TW}
theorem c_ti_loop {j : Nat} {Q : Int32 → II → Prop} {k : Int32 → Int32 → II → Prop} {t r : Nat} (h : BK s I j f) (hf : WF f) (ht : t < tn f) (hk : k (nI r) (nI t) I) : ∀ (d o a : Nat), t < o → o + d = tn f → a + tiC f t d o = r → ∃ N, wp_X1_twinPairs_21 j Q k N (nI a) (nI t) (nI o) I := by
  have hn := hf.n
  have h4 : t < 4 := by omega
  have et := (h.2.1 t ht).2.2.2.1
  intro d
  induction d with
  | zero =>
    intro o a _ ho hr
    refine ⟨1, ?_⟩
    rw [wp_X1_twinPairs_21.eq_2]
    have c : tn f ≤ o := by omega
    simp (disch := omega) only [h.1.2.2.1, hn.1, nIle, c, Bool.true_eq_false, Bool.false_eq_true, false_implies, true_implies, not_true_eq_false, not_false_eq_true, and_true, true_and]
    rw [tiC] at hr
    rw [show a = r by omega]; exact hk
  | succ d ih =>
    intro o a hto ho hr
    rw [tiC] at hr
    obtain ⟨N, hN⟩ := ih (o + 1) (a + (if eqB f t o then 1 else 0)) (by omega) (by omega) (by omega)
    refine ⟨N + 1, ?_⟩
    rw [wp_X1_twinPairs_21.eq_2]
    have c : ¬ tn f ≤ o := by omega
    have c4 : ¬ 4 ≤ o := by omega
    have o4 : o < 4 := by omega
    have eo := (h.2.1 o (by omega)).2.2.2.1
    simp (disch := omega) only [h.1.2.2.1, hn.1, nIle, c, c4, Bool.true_eq_false, Bool.false_eq_true, false_implies, true_implies, not_true_eq_false, not_false_eq_true, and_true, true_and, nIvp, nIcl, h4, o4, et, eo, wp_X1_twinPairs_52, nI_add]
    by_cases e : f (41 + t) = f (41 + o)
    · simp only [e, Bool.true_eq_false, Bool.false_eq_true, false_implies, true_implies, not_true_eq_false, not_false_eq_true, and_true, true_and]
      rw [eqB, decide_eq_true e, if_pos rfl] at hN
      exact hN
    · simp only [e, Bool.true_eq_false, Bool.false_eq_true, false_implies, true_implies, not_true_eq_false, not_false_eq_true, and_true, true_and]
      rw [eqB, decide_eq_false e, if_neg (by decide), Nat.add_zero] at hN
      exact hN
theorem c_to_loop {j : Nat} {Q : Int32 → II → Prop} {k : Int32 → II → Prop} {r : Nat} (h : BK s I j f) (hf : WF f) (hk : k (nI r) I) : ∀ (d t a : Nat), t + d = tn f → a + toC f (tn f) d t = r → ∃ N, wp_X1_twinPairs_4 j Q k N (nI a) (nI t) I := by
  have hn := hf.n
  intro d
  induction d with
  | zero =>
    intro t a ht hr
    refine ⟨1, ?_⟩
    rw [wp_X1_twinPairs_4.eq_2]
    have c : tn f ≤ t := by omega
    simp (disch := omega) only [h.1.2.2.1, hn.1, nIle, c, Bool.true_eq_false, Bool.false_eq_true, false_implies, true_implies, not_true_eq_false, not_false_eq_true, and_true, true_and]
    rw [toC] at hr
    rw [show a = r by omega]; exact hk
  | succ d ih =>
    intro t a ht hr
    rw [toC] at hr
    obtain ⟨N, hN⟩ := ih (t + 1) (a + tiC f t (tn f - (t + 1)) (t + 1)) (by omega) (by omega)
    refine ⟨N + 1, ?_⟩
    rw [wp_X1_twinPairs_4.eq_2]
    have c : ¬ tn f ≤ t := by omega
    have c4 : ¬ 4 ≤ t := by omega
    simp (disch := omega) only [h.1.2.2.1, hn.1, nIle, c, c4, Bool.true_eq_false, Bool.false_eq_true, false_implies, true_implies, not_true_eq_false, not_false_eq_true, and_true, true_and, nI_add]
    refine c_ti_loop (t := t) h hf (by omega) ?_ (tn f - (t + 1)) (t + 1) a (by omega) (by omega) rfl
    unfold wp_X1_twinPairs_58
    rw [nI_add]
    exact hN
theorem c_fi2_loop {j : Nat} {Q : Int32 → II → Prop} {k47 : Int32 → Int32 → II → Prop} {k60 : Int32 → II → Prop} {t : Nat} {x r : Int32} (h : BK s I j f) (hf : WF f) (ht : t < tn f) (h1 : ∀ o, o < 4 → nI (10 * t + o) = r → k47 (nI t) (nI o) I) (h2 : x = r → k60 (nI t) I) : ∀ (d o : Nat), t < o → o + d = tn f → tiF f t x d o = r → ∃ N, wp_X1_firstTwins_19 j Q k47 k60 N (nI t) (nI o) I := by
  have hn := hf.n
  have h4 : t < 4 := by omega
  have et := (h.2.1 t ht).2.2.2.1
  intro d
  induction d with
  | zero =>
    intro o _ ho hr
    refine ⟨1, ?_⟩
    rw [wp_X1_firstTwins_19.eq_2]
    have c : tn f ≤ o := by omega
    simp (disch := omega) only [h.1.2.2.1, hn.1, nIle, c, Bool.true_eq_false, Bool.false_eq_true, false_implies, true_implies, not_true_eq_false, not_false_eq_true, and_true, true_and]
    exact h2 hr
  | succ d ih =>
    intro o hto ho hr
    rw [tiF] at hr
    have c : ¬ tn f ≤ o := by omega
    have c4 : ¬ 4 ≤ o := by omega
    have o4 : o < 4 := by omega
    have eo := (h.2.1 o (by omega)).2.2.2.1
    by_cases e : f (41 + t) = f (41 + o)
    · rw [eqB, decide_eq_true e, if_pos rfl] at hr
      refine ⟨1, ?_⟩
      rw [wp_X1_firstTwins_19.eq_2]
      simp (disch := omega) only [h.1.2.2.1, hn.1, nIle, c, c4, Bool.true_eq_false, Bool.false_eq_true, false_implies, true_implies, not_true_eq_false, not_false_eq_true, and_true, true_and, nIvp, nIcl, h4, o4, et, eo, e]
      exact h1 o o4 hr
    · rw [eqB, decide_eq_false e, if_neg (by decide)] at hr
      obtain ⟨N, hN⟩ := ih (o + 1) (by omega) (by omega) hr
      refine ⟨N + 1, ?_⟩
      rw [wp_X1_firstTwins_19.eq_2]
      simp (disch := omega) only [h.1.2.2.1, hn.1, nIle, c, c4, Bool.true_eq_false, Bool.false_eq_true, false_implies, true_implies, not_true_eq_false, not_false_eq_true, and_true, true_and, nIvp, nIcl, h4, o4, et, eo, e, nI_add]
      exact hN
theorem c_fo_loop {j : Nat} {Q : Int32 → II → Prop} {k47 : Int32 → Int32 → II → Prop} {k66 : II → Prop} {r : Int32} (h : BK s I j f) (hf : WF f) (h1 : ∀ t o, t < 4 → o < 4 → nI (10 * t + o) = r → k47 (nI t) (nI o) I) (h2 : (-nI 1000000) = r → k66 I) : ∀ (d t : Nat), t + d = tn f → toF f (tn f) d t = r → ∃ N, wp_X1_firstTwins_2 j Q k47 k66 N (nI t) I := by
  have hn := hf.n
  intro d
  induction d with
  | zero =>
    intro t ht hr
    refine ⟨1, ?_⟩
    rw [wp_X1_firstTwins_2.eq_2]
    have c : tn f ≤ t := by omega
    simp (disch := omega) only [h.1.2.2.1, hn.1, nIle, c, Bool.true_eq_false, Bool.false_eq_true, false_implies, true_implies, not_true_eq_false, not_false_eq_true, and_true, true_and]
    exact h2 hr
  | succ d ih =>
    intro t ht hr
    rw [toF] at hr
    have c : ¬ tn f ≤ t := by omega
    have c4 : ¬ 4 ≤ t := by omega
    by_cases e : toF f (tn f) d (t + 1) = r
    · obtain ⟨N, hN⟩ := ih (t + 1) (by omega) e
      refine ⟨N + 1, ?_⟩
      rw [wp_X1_firstTwins_2.eq_2]
      simp (disch := omega) only [h.1.2.2.1, hn.1, nIle, c, c4, Bool.true_eq_false, Bool.false_eq_true, false_implies, true_implies, not_true_eq_false, not_false_eq_true, and_true, true_and, nI_add]
      refine c_fi2_loop (r := r) h hf (by omega) (fun o ho z => h1 t o (by omega) ho z) (fun _ => ?_) (tn f - (t + 1)) (t + 1) (by omega) (by omega) hr
      unfold wp_X1_firstTwins_60
      rw [nI_add]; exact hN
    · refine ⟨1, ?_⟩
      rw [wp_X1_firstTwins_2.eq_2]
      simp (disch := omega) only [h.1.2.2.1, hn.1, nIle, c, c4, Bool.true_eq_false, Bool.false_eq_true, false_implies, true_implies, not_true_eq_false, not_false_eq_true, and_true, true_and, nI_add]
      exact c_fi2_loop (r := r) h hf (by omega) (fun o ho z => h1 t o (by omega) ho z) (fun z => absurd z e) (tn f - (t + 1)) (t + 1) (by omega) (by omega) hr
theorem m_ti_loop {Q : Int32 → II → Prop} {k : Int32 → Int32 → Int32 → Int32 → II → Prop} {t a : Nat} {x1 x : Int32} (hI : ∀ q, q < 49 → I 316 q = f q) (hf : WF f) (ht : t < tn f) (hk : k x1 (nI (a + tiC f t (tn f - (t + 1)) (t + 1))) (tiF f t x (tn f - (t + 1)) (t + 1)) (nI t) I) : ∀ (d o : Nat), t + d = o → o < tn f → ∃ N, wp_X8_twins_53 Q k N x1 (nI (a + tiC f t (tn f - (o + 1)) (o + 1))) (tiF f t x (tn f - (o + 1)) (o + 1)) (nI t) (nI o) I := by
  have hn := hf.n
  intro d
  induction d with
  | zero =>
    intro o ho hn2
    refine ⟨1, ?_⟩
    rw [wp_X8_twins_53.eq_2]
    have c : o ≤ t := by omega
    have e : t = o := by omega
    simp (disch := omega) only [nIle, c, Bool.true_eq_false, Bool.false_eq_true, false_implies, true_implies, not_true_eq_false, not_false_eq_true, and_true, true_and]
    rw [← e]; exact hk
  | succ d ih =>
    intro o ho hn2
    obtain ⟨N, hN⟩ := ih (o - 1) (by omega) (by omega)
    refine ⟨N + 1, ?_⟩
    rw [wp_X8_twins_53.eq_2]
    have c : ¬ o ≤ t := by omega
    have gt : 41 + t < 1372 := by omega
    have go : 41 + o < 1372 := by omega
    have et := hI (41 + t) (by omega)
    have eo := hI (41 + o) (by omega)
    have eo1 : o - 1 + 1 = o := by omega
    have em : tn f - o = tn f - (o + 1) + 1 := by omega
    rw [eo1, em, tiC, tiF] at hN
    have ed : nI o + -nI 1 = nI (o - 1) := by
      have := nI_dec (d := o - 1)
      rwa [eo1] at this
    have em10 : nI 10 * nI t + nI o = nI (10 * t + o) := by rw [pk_mul, nI_add]
    have z0 : (nI 0 : Int32) = 0 := rfl
    have z1 : ¬ (nI 1 : Int32) = 0 := by decide
    simp (disch := omega) only [nIle, c, Bool.true_eq_false, Bool.false_eq_true, false_implies, true_implies, not_true_eq_false, not_false_eq_true, and_true, true_and, nIvp, nIcl, nI_add, gt, go, et, eo, wp_X8_twins_88, wp_X8_twins_101, wp_X8_twins_120, ed, em10, z1, z0]
    by_cases e : f (41 + t) = f (41 + o)
    · simp only [e, Bool.true_eq_false, Bool.false_eq_true, false_implies, true_implies, not_true_eq_false, not_false_eq_true, and_true, true_and]
      rw [eqB, decide_eq_true e, if_pos rfl, if_pos rfl] at hN
      rw [show a + tiC f t (tn f - (o + 1)) (o + 1) + 1 = a + (1 + tiC f t (tn f - (o + 1)) (o + 1)) by omega]
      exact hN
    · simp only [e, Bool.true_eq_false, Bool.false_eq_true, false_implies, true_implies, not_true_eq_false, not_false_eq_true, and_true, true_and]
      rw [eqB, decide_eq_false e, if_neg (by decide), if_neg (by decide), Nat.zero_add] at hN
      rw [Int32.add_zero]
      exact hN
theorem m_to_loop {Q : Int32 → II → Prop} {k : Int32 → Int32 → Int32 → II → Prop} {x1 : Int32} (hI : ∀ q, q < 49 → I 316 q = f q) (hf : WF f) (hk : k x1 (nI (toC f (tn f) (tn f) 0)) (toF f (tn f) (tn f) 0) I) : ∀ (t : Nat), t ≤ tn f → ∃ N, wp_X8_twins_38 Q k N x1 (nI (toC f (tn f) (tn f - t) t)) (toF f (tn f) (tn f - t) t) (nI t - nI 1) I := by
  have hn := hf.n
  have e0 : I 316 0 = nI (tn f) := by rw [hI 0 (by omega), hn.1]
  have g0 : 0 < 1372 := by omega
  intro t
  induction t with
  | zero =>
    intro _
    refine ⟨1, ?_⟩
    rw [wp_X8_twins_38.eq_2]
    have c : (nI 0 - nI 1 : Int32) < 0 := by decide
    simp only [c, Bool.true_eq_false, Bool.false_eq_true, false_implies, true_implies, not_true_eq_false, not_false_eq_true, and_true, true_and]
    exact hk
  | succ t ih =>
    intro ht
    obtain ⟨N, hN⟩ := ih (by omega)
    refine ⟨N + 1, ?_⟩
    rw [wp_X8_twins_38.eq_2]
    rw [nIsub (by omega), Nat.add_sub_cancel]
    simp (disch := omega) only [nIlt0, Bool.true_eq_false, Bool.false_eq_true, false_implies, true_implies, not_true_eq_false, not_false_eq_true, and_true, true_and, nIvp, nIcl, g0, e0]
    rw [nIsub (by omega)]
    have em : tn f - t = tn f - (t + 1) + 1 := by omega
    rw [em, toC, toF] at hN
    have hL := m_ti_loop (Q := Q) (k := fun x1 x2 x3 x4 I => wp_X8_twins_38 Q k N x1 x2 x3 (x4 + -nI 1) I) (t := t) (a := toC f (tn f) (tn f - (t + 1)) (t + 1)) (x1 := x1) (x := toF f (tn f) (tn f - (t + 1)) (t + 1)) hI hf (by omega) (by
      rw [Nat.add_comm]
      have e5 : nI t + -nI 1 = nI t - nI 1 := by rw [Int32.sub_eq_add_neg]
      show wp_X8_twins_38 Q k N x1 _ _ (nI t + -nI 1) I
      rw [e5]; exact hN) (tn f - 1 - t) (tn f - 1) (by omega) (by omega)
    rw [show tn f - (tn f - 1 + 1) = 0 by omega, tiC, tiF, Nat.add_zero] at hL
    exact hL
end TWIN
theorem s_twins (x : Int32) : SIM (wp_X7_twins x) (wp_X8_twins x) := by
  refine SIM.qr (fun I f v hf hz c m => ?_)
  have hn := hf.n
  unfold wp_X7_twins wp_X8_twins
  by_cases h0 : 0 < tn f
  · cases hx : inB 0 1 x with
    | false =>
      refine ⟨-nI 1000001, fun Q hQ => ?_, fun J Q hJ mj hQ => ?_⟩
      · rw [c_isThere c hf, decide_eq_true h0, i1_0, k_isChoice, hx, i1_0]; simp only [Bool.true_eq_false, Bool.false_eq_true, false_implies, true_implies, not_true_eq_false, not_false_eq_true, and_true, true_and]; exact hQ I (FRA.rf I)
      · rw [mj.2, decide_eq_true h0, i1_0, m_inE _ _ _ _ _ (by omega) (by omega), hx, i1_0]; simp only [Bool.true_eq_false, Bool.false_eq_true, false_implies, true_implies, not_true_eq_false, not_false_eq_true, and_true, true_and]; exact hQ J (FRA.rf J)
    | true =>
      refine ⟨if x = 0 then nI (toC f (tn f) (tn f) 0) else toF f (tn f) (tn f) 0, fun Q hQ => ?_, fun J Q hJ mj hQ => ?_⟩
      · rw [c_isThere c hf, decide_eq_true h0, i1_0, k_isChoice, hx, i1_0]
        simp only [Bool.true_eq_false, Bool.false_eq_true, false_implies, true_implies, not_true_eq_false, not_false_eq_true, and_true, true_and]
        refine ⟨fun e => ?_, fun e => ?_⟩
        · rw [if_neg e] at hQ
          refine c_fo_loop (r := toF f (tn f) (tn f) 0) c hf (fun t o _ _ z => ?_) (fun z => ?_) (tn f) 0 (by omega) rfl
          · rw [pk_mul, nI_add, z]; exact hQ I (FRA.rf I)
          · rw [← z] at hQ; exact hQ I (FRA.rf I)
        · rw [if_pos e] at hQ
          exact c_to_loop (k := fun x1 I => Q x1 I) c hf (hQ I (FRA.rf I)) (tn f) 0 0 (by omega) (by omega)
      · rw [mj.2, decide_eq_true h0, i1_0, m_inE _ _ _ _ _ (by omega) (by omega), hx, i1_0]
        have e0 : J 316 0 = nI (tn f) := by rw [mj.1 0 (by omega), hn.1]
        have g0 : 0 < 1372 := by omega
        simp (disch := omega) only [Bool.true_eq_false, Bool.false_eq_true, false_implies, true_implies, not_true_eq_false, not_false_eq_true, and_true, true_and, nIvp, nIcl, g0, e0]
        have hL := m_to_loop (Q := Q) (k := fun x1 x2 x3 I => (¬ x1 = 0 → Q x3 I) ∧ (x1 = 0 → Q x2 I)) (x1 := x) mj.1 hf ⟨fun e => by rw [if_neg e] at hQ; exact hQ J (FRA.rf J), fun e => by rw [if_pos e] at hQ; exact hQ J (FRA.rf J)⟩ (tn f) (Nat.le_refl _)
        rw [Nat.sub_self, toC, toF] at hL
        exact hL
  · refine ⟨-nI 1000002, fun Q hQ => ?_, fun J Q hJ mj hQ => ?_⟩
    · rw [c_isThere c hf, decide_eq_false h0, i1_0]; simp only [Bool.true_eq_false, Bool.false_eq_true, false_implies, true_implies, not_true_eq_false, not_false_eq_true, and_true, true_and]; exact hQ I (FRA.rf I)
    · rw [mj.2, decide_eq_false h0, i1_0]; simp only [Bool.true_eq_false, Bool.false_eq_true, false_implies, true_implies, not_true_eq_false, not_false_eq_true, and_true, true_and]; exact hQ J (FRA.rf J)

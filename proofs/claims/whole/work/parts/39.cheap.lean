/-! ===== cheap, most, twins ===== -/
/-- the cheapest of the tellers 0 .. t -/
def chT (f : TW) (s : Int32) : Nat → Nat
  | 0 => 0
  | t + 1 => if costT f (chT f s t) s ≤ costT f (t + 1) s then chT f s t else t + 1
theorem chT_le (f : TW) (s : Int32) : ∀ t, chT f s t ≤ t := by
  intro t
  induction t with
  | zero => exact Nat.le_refl _
  | succ t ih => rw [chT]; split <;> omega
theorem c_ch_loop {s : Prop} {I : II} {j : Nat} {f : TW} {x : Int32} {Q : Int32 → II → Prop} {k : Int32 → II → Prop} (h : BK s I j f) (hf : WF f) (h0 : 0 < tn f) (hk : k (nI (chT f x (tn f - 1))) I) : ∀ (d t : Nat), t + 1 + d = tn f → ∃ N, wp_X1_cheapestFor_4 j Q k N x (nI (chT f x t)) (nI (t + 1)) I := by
  have hn := hf.n
  intro d
  induction d with
  | zero =>
    intro t ht
    refine ⟨1, ?_⟩
    rw [wp_X1_cheapestFor_4.eq_2]
    have c : tn f ≤ t + 1 := by omega
    have e : t = tn f - 1 := by omega
    simp (disch := omega) only [h.1.2.2.1, hn.1, nIle, c, Bool.true_eq_false, Bool.false_eq_true, false_implies, true_implies, not_true_eq_false, not_false_eq_true, and_true, true_and]
    rw [e]; exact hk
  | succ d ih =>
    intro t ht
    obtain ⟨N, hN⟩ := ih (t + 1) (by omega)
    refine ⟨N + 1, ?_⟩
    rw [wp_X1_cheapestFor_4.eq_2]
    have c : ¬ tn f ≤ t + 1 := by omega
    have c4 : ¬ 4 ≤ t + 1 := by omega
    have hle := chT_le f x t
    simp (disch := omega) only [h.1.2.2.1, hn.1, nIle, c, c4, Bool.true_eq_false, Bool.false_eq_true, false_implies, true_implies, not_true_eq_false, not_false_eq_true, and_true, true_and]
    rw [c_costTo h hf (by omega), c_costTo h hf (by omega)]
    rw [chT] at hN
    unfold wp_X1_cheapestFor_34
    rw [nI_add]
    refine ⟨fun e => ?_, fun e => ?_⟩
    · rw [if_pos e] at hN; exact hN
    · rw [if_neg e] at hN; exact hN
theorem m_ch_loop {I : II} {f : TW} {x y : Int32} {Q : Int32 → II → Prop} {k : Int32 → Int32 → Int32 → II → Prop} (hI : ∀ q, q < 49 → I 316 q = f q) (hf : WF f) (h0 : 0 < tn f) (hk : k x y (nI (chT f x (tn f - 1))) I) : ∀ (d t : Nat), t + 1 + d = tn f → ∃ N, wp_X8_cheap_40 Q k N x y (nI (chT f x t)) (nI (t + 1)) I := by
  have hn := hf.n
  have e0 : I 316 0 = nI (tn f) := by rw [hI 0 (by omega), hn.1]
  have g0 : 0 < 1372 := by omega
  intro d
  induction d with
  | zero =>
    intro t ht
    refine ⟨1, ?_⟩
    rw [wp_X8_cheap_40.eq_2]
    have c : tn f ≤ t + 1 := by omega
    have e : t = tn f - 1 := by omega
    simp (disch := omega) only [nIvp, nIcl, e0, g0, nIle, c, Bool.true_eq_false, Bool.false_eq_true, false_implies, true_implies, not_true_eq_false, not_false_eq_true, and_true, true_and]
    rw [e]; exact hk
  | succ d ih =>
    intro t ht
    obtain ⟨N, hN⟩ := ih (t + 1) (by omega)
    refine ⟨N + 1, ?_⟩
    rw [wp_X8_cheap_40.eq_2]
    have c : ¬ tn f ≤ t + 1 := by omega
    have hle := chT_le f x t
    simp (disch := omega) only [nIvp, nIcl, e0, g0, nIle, c, Bool.true_eq_false, Bool.false_eq_true, false_implies, true_implies, not_true_eq_false, not_false_eq_true, and_true, true_and]
    rw [m_cost0 hI (by omega), m_cost0 hI (by omega)]
    rw [chT] at hN
    unfold wp_X8_cheap_75
    rw [nI_add]
    refine ⟨fun e => ?_, fun e => ?_⟩
    · rw [if_pos e] at hN; exact hN
    · rw [if_neg e] at hN; exact hN
theorem s_cheap (x y : Int32) : SIM (wp_X7_cheap x y) (wp_X8_cheap x y) := by
  refine SIM.qr (fun I f v hf hz c m => ?_)
  have n4 := hf.n.2
  unfold wp_X7_cheap wp_X8_cheap
  by_cases h0 : 0 < tn f
  · cases hx : inB 1 30 x with
    | false =>
      refine ⟨-nI 1000001, fun Q hQ => ?_, fun J Q hJ mj hQ => ?_⟩
      · rw [c_isThere c hf, decide_eq_true h0, i1_0, k_isSum, hx, i1_0]; simp only [Bool.true_eq_false, Bool.false_eq_true, false_implies, true_implies, not_true_eq_false, not_false_eq_true, and_true, true_and]; exact hQ I (FRA.rf I)
      · rw [mj.2, decide_eq_true h0, i1_0, m_inE _ _ _ _ _ (by omega) (by omega), hx, i1_0]; simp only [Bool.true_eq_false, Bool.false_eq_true, false_implies, true_implies, not_true_eq_false, not_false_eq_true, and_true, true_and]; exact hQ J (FRA.rf J)
    | true =>
      cases hy : inB 0 1 y with
      | false =>
        refine ⟨-nI 1000001, fun Q hQ => ?_, fun J Q hJ mj hQ => ?_⟩
        · rw [c_isThere c hf, decide_eq_true h0, i1_0, k_isSum, hx, i1_0, k_isChoice, hy, i1_0]; simp only [Bool.true_eq_false, Bool.false_eq_true, false_implies, true_implies, not_true_eq_false, not_false_eq_true, and_true, true_and]; exact hQ I (FRA.rf I)
        · rw [mj.2, decide_eq_true h0, i1_0, m_inE _ _ _ _ _ (by omega) (by omega), hx, i1_0, m_inE _ _ _ _ _ (by omega) (by omega), hy, i1_0]; simp only [Bool.true_eq_false, Bool.false_eq_true, false_implies, true_implies, not_true_eq_false, not_false_eq_true, and_true, true_and]; exact hQ J (FRA.rf J)
      | true =>
        have hle := chT_le f x (tn f - 1)
        refine ⟨if y = 0 then nI (chT f x (tn f - 1)) else costT f (chT f x (tn f - 1)) x, fun Q hQ => ?_, fun J Q hJ mj hQ => ?_⟩
        · rw [c_isThere c hf, decide_eq_true h0, i1_0, k_isSum, hx, i1_0, k_isChoice, hy, i1_0]
          simp only [Bool.true_eq_false, Bool.false_eq_true, false_implies, true_implies, not_true_eq_false, not_false_eq_true, and_true, true_and]
          refine c_ch_loop c hf h0 ?_ (tn f - 1) 0 (by omega)
          refine ⟨fun e => ?_, fun e => ?_⟩
          · rw [if_neg e] at hQ
            rw [c_costTo c hf (by omega)]; exact hQ I (FRA.rf I)
          · rw [if_pos e] at hQ; exact hQ I (FRA.rf I)
        · rw [mj.2, decide_eq_true h0, i1_0, m_inE _ _ _ _ _ (by omega) (by omega), hx, i1_0, m_inE _ _ _ _ _ (by omega) (by omega), hy, i1_0]
          simp only [Bool.true_eq_false, Bool.false_eq_true, false_implies, true_implies, not_true_eq_false, not_false_eq_true, and_true, true_and]
          refine m_ch_loop mj.1 hf h0 ?_ (tn f - 1) 0 (by omega)
          refine ⟨fun e => ?_, fun e => ?_⟩
          · rw [if_neg e] at hQ
            rw [m_cost0 mj.1 (by omega)]; exact hQ J (FRA.rf J)
          · rw [if_pos e] at hQ; exact hQ J (FRA.rf J)
  · refine ⟨-nI 1000002, fun Q hQ => ?_, fun J Q hJ mj hQ => ?_⟩
    · rw [c_isThere c hf, decide_eq_false h0, i1_0]; simp only [Bool.true_eq_false, Bool.false_eq_true, false_implies, true_implies, not_true_eq_false, not_false_eq_true, and_true, true_and]; exact hQ I (FRA.rf I)
    · rw [mj.2, decide_eq_false h0, i1_0]; simp only [Bool.true_eq_false, Bool.false_eq_true, false_implies, true_implies, not_true_eq_false, not_false_eq_true, and_true, true_and]; exact hQ J (FRA.rf J)
def anP (f : TW) (s : Int32) : Nat → Nat → Bool
  | 0, _ => false
  | d + 1, t => (opT f t && pyT f t s) || anP f s d (t + 1)
theorem anP_up (f : TW) (s : Int32) : ∀ d t, anP f s (d + 1) t = (anP f s d t || (opT f (t + d) && pyT f (t + d) s)) := by
  intro d
  induction d with
  | zero => intro t; simp [anP]
  | succ d ih =>
    intro t
    rw [anP, ih (t + 1), anP, Bool.or_assoc, show t + 1 + d = t + (d + 1) by omega]
theorem dT_any (f : TW) (s : Int32) : ∀ n, n ≤ 4 → decide (dT f s n = (-nI 1000000)) = !anP f s n 0 := by
  intro n
  induction n with
  | zero => intro _; simp [dT, anP]
  | succ n ih =>
    intro hn
    have ih := ih (by omega)
    rw [anP_up, Nat.zero_add, dT]
    have eN : ¬ nI n = (-nI 1000000) := by rw [nIneg (by omega) (by omega) (by omega)]; exact not_false
    cases ho : opT f n && pyT f n s with
    | false =>
      rw [Bool.false_and, if_neg (by decide), ih, Bool.or_false]
    | true =>
      rw [Bool.or_true, Bool.true_and]
      by_cases e : dT f s n = (-nI 1000000)
      · rw [decide_eq_true e, Bool.true_or, if_pos rfl, decide_eq_false eN]; rfl
      · rw [decide_eq_false e, Bool.false_or]
        split
        · rw [decide_eq_false eN]; rfl
        · rw [decide_eq_false e]; rfl
def mstD (f : TW) : Nat → Int32
  | 0 => (-nI 1000000)
  | d + 1 => if anP f (nI (d + 1)) (tn f) 0 = true then nI (d + 1) else mstD f d
theorem nI_dec {d : Nat} : nI (d + 1) + -nI 1 = nI d := by
  have : nI (d + 1) + -nI 1 = nI (d + 1) - nI 1 := by rw [Int32.sub_eq_add_neg]
  rw [this, nIsub (by omega), Nat.add_sub_cancel]
theorem c_gs_loop {s : Prop} {I : II} {j : Nat} {f : TW} {r : Int32} {Q : Int32 → II → Prop} {k18 : Int32 → II → Prop} {k26 : II → Prop} (h : BK s I j f) (hf : WF f) (h1 : r ≠ (-nI 1000000) → k18 r I) (h2 : r = (-nI 1000000) → k26 I) : ∀ (d : Nat), d ≤ 99 → mstD f d = r → ∃ N, wp_X1_greatestSum_3 j Q k18 k26 N (nI d) I := by
  intro d
  induction d with
  | zero =>
    intro _ hr
    refine ⟨1, ?_⟩
    rw [wp_X1_greatestSum_3.eq_2]
    have c : 0 < 1 := by omega
    simp (disch := omega) only [nIlt, c, Bool.true_eq_false, Bool.false_eq_true, false_implies, true_implies, not_true_eq_false, not_false_eq_true, and_true, true_and]
    exact h2 hr.symm
  | succ d ih =>
    intro hd hr
    have c : ¬ d + 1 < 1 := by omega
    rw [mstD] at hr
    have hx := dT_any f (nI (d + 1)) (tn f) hf.n.2
    by_cases e : anP f (nI (d + 1)) (tn f) 0 = true
    · rw [if_pos e] at hr
      refine ⟨1, ?_⟩
      rw [wp_X1_greatestSum_3.eq_2]
      simp (disch := omega) only [nIlt, c, Bool.true_eq_false, Bool.false_eq_true, false_implies, true_implies, not_true_eq_false, not_false_eq_true, and_true, true_and]
      refine c_drawerOf h hf ⟨fun z => ?_, fun _ => ?_⟩
      · rw [z, e] at hx; exact absurd hx (by decide)
      · rw [hr]
        exact h1 (by rw [← hr, ne_eq, nIneg (by omega) (by omega) (by omega)]; exact not_false)
    · rw [if_neg e] at hr
      obtain ⟨N, hN⟩ := ih (by omega) hr
      refine ⟨N + 1, ?_⟩
      rw [wp_X1_greatestSum_3.eq_2]
      simp (disch := omega) only [nIlt, c, Bool.true_eq_false, Bool.false_eq_true, false_implies, true_implies, not_true_eq_false, not_false_eq_true, and_true, true_and]
      refine c_drawerOf h hf ⟨fun _ => ?_, fun z => ?_⟩
      · rw [nI_dec]; exact hN
      · rw [decide_eq_false z] at hx
        have e : anP f (nI (d + 1)) (tn f) 0 = false := by simpa using e
        rw [e] at hx; exact absurd hx (by decide)
theorem m_mo_loop {I : II} {f : TW} {x : Int32} {Q : Int32 → II → Prop} {k53 k61 : Int32 → II → Prop} (hI : ∀ q, q < 49 → I 316 q = f q) (hf : WF f) : ∀ (d t : Nat), t + d = tn f → (anP f x d t = true → k53 x I) → (anP f x d t = false → k61 x I) → ∃ N, wp_X8_most_19 Q k53 k61 N x (nI t) I := by
  have hn := hf.n
  have e0 : I 316 0 = nI (tn f) := by rw [hI 0 (by omega), hn.1]
  have e6 : I 316 6 = f 6 := hI 6 (by omega)
  have g0 : 0 < 1372 := by omega
  have g6 : 6 < 1372 := by omega
  intro d
  induction d with
  | zero =>
    intro t ht h1 h2
    refine ⟨1, ?_⟩
    rw [wp_X8_most_19.eq_2]
    have c : tn f ≤ t := by omega
    simp (disch := omega) only [nIvp, nIcl, e0, g0, nIle, c, Bool.true_eq_false, Bool.false_eq_true, false_implies, true_implies, not_true_eq_false, not_false_eq_true, and_true, true_and]
    exact h2 rfl
  | succ d ih =>
    intro t ht h1 h2
    have c : ¬ tn f ≤ t := by omega
    rw [anP] at h1 h2
    cases ho : opT f t && pyT f t x with
    | true =>
      rw [Bool.and_eq_true] at ho
      refine ⟨1, ?_⟩
      rw [wp_X8_most_19.eq_2]
      simp (disch := omega) only [nIvp, nIcl, e0, g0, e6, g6, nIle, c, Bool.true_eq_false, Bool.false_eq_true, false_implies, true_implies, not_true_eq_false, not_false_eq_true, and_true, true_and, m_has, opT_r, i1_0, ho.1]
      rw [m_may0 hI (by omega), i1_0, ho.2]
      simp only [Bool.true_eq_false, Bool.false_eq_true, false_implies, true_implies, not_true_eq_false, not_false_eq_true, and_true, true_and]
      exact h1 (by rw [ho.1, ho.2]; rfl)
    | false =>
      rw [ho, Bool.false_or] at h1 h2
      obtain ⟨N, hN⟩ := ih (t + 1) (by omega) h1 h2
      refine ⟨N + 1, ?_⟩
      rw [wp_X8_most_19.eq_2]
      simp (disch := omega) only [nIvp, nIcl, e0, g0, e6, g6, nIle, c, Bool.true_eq_false, Bool.false_eq_true, false_implies, true_implies, not_true_eq_false, not_false_eq_true, and_true, true_and, m_has, opT_r, i1_0, wp_X8_most_55, nI_add]
      refine ⟨fun _ => hN, fun z => ?_⟩
      rw [m_may0 hI (by omega), i1_0]
      refine ⟨fun _ => hN, fun z2 => ?_⟩
      have z1 : opT f t = true := by simpa using z
      have z3 : pyT f t x = true := by simpa using z2
      rw [z1, z3] at ho; exact absurd ho (by decide)
theorem m_ms_loop {I : II} {f : TW} {r : Int32} {Q : Int32 → II → Prop} {k53 : Int32 → II → Prop} {k67 : II → Prop} (hI : ∀ q, q < 49 → I 316 q = f q) (hf : WF f) (h1 : r ≠ (-nI 1000000) → k53 r I) (h2 : r = (-nI 1000000) → k67 I) : ∀ (d : Nat), d ≤ 99 → mstD f d = r → ∃ N, wp_X8_most_13 Q k53 k67 N (nI d) I := by
  intro d
  induction d with
  | zero =>
    intro _ hr
    refine ⟨1, ?_⟩
    rw [wp_X8_most_13.eq_2]
    have c : (0 : Nat) = 0 := rfl
    simp (disch := omega) only [nIle0, c, Bool.true_eq_false, Bool.false_eq_true, false_implies, true_implies, not_true_eq_false, not_false_eq_true, and_true, true_and]
    exact h2 hr.symm
  | succ d ih =>
    intro hd hr
    have c : ¬ d + 1 = 0 := by omega
    rw [mstD] at hr
    by_cases e : anP f (nI (d + 1)) (tn f) 0 = true
    · rw [if_pos e] at hr
      refine ⟨1, ?_⟩
      rw [wp_X8_most_13.eq_2]
      simp (disch := omega) only [nIle0, c, Bool.true_eq_false, Bool.false_eq_true, false_implies, true_implies, not_true_eq_false, not_false_eq_true, and_true, true_and]
      refine m_mo_loop hI hf (tn f) 0 (by omega) (fun _ => ?_) (fun z => by rw [z] at e; cases e)
      rw [hr]
      exact h1 (by rw [← hr, ne_eq, nIneg (by omega) (by omega) (by omega)]; exact not_false)
    · rw [if_neg e] at hr
      obtain ⟨N, hN⟩ := ih (by omega) hr
      refine ⟨N + 1, ?_⟩
      rw [wp_X8_most_13.eq_2]
      simp (disch := omega) only [nIle0, c, Bool.true_eq_false, Bool.false_eq_true, false_implies, true_implies, not_true_eq_false, not_false_eq_true, and_true, true_and]
      refine m_mo_loop hI hf (tn f) 0 (by omega) (fun z => absurd z e) (fun _ => ?_)
      rw [nI_dec]; exact hN
theorem s_most : SIM wp_X7_most wp_X8_most := by
  refine SIM.qr (fun I f v hf hz c m => ?_)
  unfold wp_X7_most wp_X8_most
  by_cases h0 : 0 < tn f
  · refine ⟨mstD f 99, fun Q hQ => ?_, fun J Q hJ mj hQ => ?_⟩
    · rw [c_isThere c hf, decide_eq_true h0, i1_0]
      simp only [Bool.true_eq_false, Bool.false_eq_true, false_implies, true_implies, not_true_eq_false, not_false_eq_true, and_true, true_and]
      refine c_gs_loop (r := mstD f 99) c hf (fun _ => hQ I (FRA.rf I)) (fun e => ?_) 99 (by omega) rfl
      rw [e] at hQ; exact hQ I (FRA.rf I)
    · rw [mj.2, decide_eq_true h0, i1_0]
      simp only [Bool.true_eq_false, Bool.false_eq_true, false_implies, true_implies, not_true_eq_false, not_false_eq_true, and_true, true_and]
      refine m_ms_loop (r := mstD f 99) mj.1 hf (fun _ => hQ J (FRA.rf J)) (fun e => ?_) 99 (by omega) rfl
      rw [e] at hQ; exact hQ J (FRA.rf J)
  · refine ⟨-nI 1000002, fun Q hQ => ?_, fun J Q hJ mj hQ => ?_⟩
    · rw [c_isThere c hf, decide_eq_false h0, i1_0]; simp only [Bool.true_eq_false, Bool.false_eq_true, false_implies, true_implies, not_true_eq_false, not_false_eq_true, and_true, true_and]; exact hQ I (FRA.rf I)
    · rw [mj.2, decide_eq_false h0, i1_0]; simp only [Bool.true_eq_false, Bool.false_eq_true, false_implies, true_implies, not_true_eq_false, not_false_eq_true, and_true, true_and]; exact hQ J (FRA.rf J)

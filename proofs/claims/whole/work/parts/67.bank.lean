/-! ===== bank ===== -/
def g1 (b : Nat → Int32) (z : Nat) : TW := upd (upd f0 1 (lw1 b z)) 2 (lw2 b z)
def PAR (b : Nat → Int32) (z : Nat) : Nat × Nat × TW := if (LAW b z).2 = 0 then (if (telR b z 5 0 (LAW b z).1 (g1 b z)).1 = 0 then papR b z 8 0 (telR b z 5 0 (LAW b z).1 (g1 b z)).2.1 (telR b z 5 0 (LAW b z).1 (g1 b z)).2.2 else telR b z 5 0 (LAW b z).1 (g1 b z)) else ((LAW b z).2, (LAW b z).1, f0)
section BANKP
variable {b : Nat → Int32} {z : Nat} {I : II} {g : TW}
theorem LAW_le : (LAW b z).1 ≤ z := TK_le (NM_le (TK_le (NM_le (TK_le (Nat.zero_le _)))))
theorem LAW_e : (LAW b z).2 ≤ 2 := TK_e (NM_e (TK_e (NM_e (TK_e (by show 0 ≤ 2; omega)))))
theorem f0_n : tn f0 = 0 := rfl
theorem f0_w : tw f0 = 0 := rfl
theorem g1_o {q : Nat} (h : q ≠ 1 ∧ q ≠ 2) : g1 b z q = f0 q := by rw [g1, upd_ne h.2, upd_ne h.1]
theorem g1_n : tn (g1 b z) = 0 := by rw [tn, g1_o (by omega)]; rfl
theorem g1_w : tw (g1 b z) = 0 := by rw [tw, g1_o (by omega)]; rfl
theorem g1_TI (h : (LAW b z).2 = 0) : TI (g1 b z) 0 := by
  obtain ⟨e3, n2⟩ := NM_0 (TK_0 h)
  obtain ⟨e1, n1⟩ := NM_0 (TK_0 e3)
  obtain ⟨i, -, i1, i2⟩ := num_in (by omega) (by omega) n1
  obtain ⟨w, w1, w2, w3⟩ := num_in (by omega) (by omega) n2
  refine ⟨⟨⟨?_, ?_⟩, ⟨?_, ?_⟩, fun k hk => ?_, fun i k hi hk _ => ?_, fun p hp => ?_, fun k hk => ?_, fun p hp hk => ?_, fun t ht => ?_, fun h0 => ?_⟩, ⟨⟨w, w1, w2, ?_⟩, i, i1, ?_⟩, g1_n, g1_w, ?_, fun q q1 q2 => ?_⟩
  · rw [g1_n, g1_o (by omega)]; rfl
  · rw [g1_n]; omega
  · rw [g1_w, g1_o (by omega)]; rfl
  · rw [g1_w]; omega
  · rw [g1_w] at hk; omega
  · rw [g1_w] at hi; omega
  · rw [g1_o (by omega)]
    left; unfold f0; rw [if_pos (by omega)]
  · rw [g1_w] at hk; omega
  · exfalso; apply hk
    rw [g1_o (by omega)]; unfold f0; rw [if_pos (by omega)]
  · rw [g1_n] at ht; omega
  · rw [g1_n] at h0; omega
  · rw [g1, upd_eq]; exact w3
  · rw [g1, upd_ne (by omega), upd_eq]; exact i2
  · rw [g1_o (by omega)]; rfl
  · rw [g1_o (by omega)]; unfold f0; rw [if_neg (by omega)]
theorem telR_ok : ∀ (d n p : Nat) (g : TW), n + d = 5 → TI g n → p ≤ z → (telR b z d n p g).1 = 0 → ∃ n', 1 ≤ n' ∧ TI (telR b z d n p g).2.2 n' ∧ (telR b z d n p g).2.1 ≤ z := by
  intro d
  induction d with
  | zero =>
    intro n p g hn ti _ _
    have := ti.1.n.2
    have := ti.2.2.1
    omega
  | succ d ih =>
    intro n p g hn ti hp hr
    rw [telR] at hr ⊢
    by_cases k0 : kdP b z p = 0
    · rw [if_pos k0] at hr ⊢
      by_cases n0 : n = 0
      · rw [if_pos n0] at hr; exact absurd hr (by show ¬ (1 : Nat) = 0; omega)
      · exact ⟨n, by omega, ti, hp⟩
    · rw [if_neg k0] at hr ⊢
      by_cases n4 : n = 4
      · rw [if_pos n4] at hr; exact absurd hr (by show ¬ (3 : Nat) = 0; omega)
      · rw [if_neg n4] at hr ⊢
        by_cases t0 : (TEL b z p).2 = 0
        · rw [if_pos t0] at hr ⊢
          exact ih (n + 1) _ _ (by omega) (ti.ad (by omega) k0 t0) (TEL_le (kdP_lt k0).1) hr
        · rw [if_neg t0] at hr; exact absurd hr t0
theorem papR_ok : ∀ (d n p : Nat) (g : TW), n + d = 8 → WF g → QN g n → p ≤ z → (papR b z d n p g).1 = 0 → WF (papR b z d n p g).2.2 ∧ tn (papR b z d n p g).2.2 = tn g ∧ (papR b z d n p g).2.2 6 = g 6 := by
  intro d
  induction d with
  | zero =>
    intro n p g hn hg hq _ _
    have := hg.w.2
    have := hq.1
    omega
  | succ d ih =>
    intro n p g hn hg hq hp hr
    rw [papR] at hr ⊢
    by_cases c : z ≤ p
    · rw [if_pos c] at hr ⊢; exact ⟨hg, rfl, rfl⟩
    · rw [if_neg c] at hr ⊢
      by_cases hl : ¬ b p = nI 100 ∧ ¬ b p = nI 112
      · rw [if_pos hl] at hr; exact absurd hr (by show ¬ (1 : Nat) = 0; omega)
      · rw [if_neg hl] at hr ⊢
        by_cases n7 : n = 7
        · rw [if_pos n7] at hr; exact absurd hr (by show ¬ (3 : Nat) = 0; omega)
        · rw [if_neg n7] at hr ⊢
          by_cases t0 : (PAP b z p).2 = 0
          · rw [if_pos t0] at hr ⊢
            obtain ⟨a1, a2, a3⟩ := ih (n + 1) _ _ (by omega) (hg.pap hq (by omega) t0) (hq.come (by omega)) (PAP_le (by omega)) hr
            refine ⟨a1, by rw [a2, cT_n], ?_⟩
            rw [a3, cT_at, if_neg (by omega), if_neg (by omega), if_neg (by omega), if_neg (by omega)]
          · rw [if_neg t0] at hr; exact absurd hr t0
theorem PAR_ok (h : (PAR b z).1 = 0) : WF (PAR b z).2.2 ∧ (∃ n, 1 ≤ n ∧ n ≤ 4 ∧ tn (PAR b z).2.2 = n ∧ (PAR b z).2.2 6 = nI (2 ^ n - 1)) := by
  unfold PAR at h ⊢
  by_cases l0 : (LAW b z).2 = 0
  · rw [if_pos l0] at h ⊢
    by_cases t0 : (telR b z 5 0 (LAW b z).1 (g1 b z)).1 = 0
    · rw [if_pos t0] at h ⊢
      obtain ⟨n, n1, ti, hp⟩ := telR_ok 5 0 _ _ (by omega) (g1_TI l0) LAW_le t0
      obtain ⟨wg, lw, en, ew, e6, es⟩ := ti
      obtain ⟨a1, a2, a3⟩ := papR_ok 8 0 _ _ (by omega) wg ⟨ew, fun k hk => absurd hk (by omega)⟩ hp h
      have := wg.n.2
      exact ⟨a1, n, n1, by omega, by rw [a2, en], by rw [a3, e6]⟩
    · rw [if_neg t0] at h; exact absurd h t0
  · rw [if_neg l0] at h; exact absurd h l0
theorem telR_e : ∀ (d n p : Nat) (g : TW), (telR b z d n p g).1 ≤ 3 := by
  intro d
  induction d with
  | zero => intro n p g; exact Nat.zero_le _
  | succ d ih =>
    intro n p g
    rw [telR]
    split
    · show (if n = 0 then 1 else 0) ≤ 3; split <;> omega
    · split
      · exact Nat.le_refl _
      · split
        · exact ih _ _ _
        · have := TEL_e (b := b) (z := z) p; show (TEL b z p).2 ≤ 3; omega
theorem papR_e : ∀ (d n p : Nat) (g : TW), (papR b z d n p g).1 ≤ 3 := by
  intro d
  induction d with
  | zero => intro n p g; exact Nat.zero_le _
  | succ d ih =>
    intro n p g
    rw [papR]
    split
    · exact Nat.zero_le _
    · split
      · show 1 ≤ 3; omega
      · split
        · exact Nat.le_refl _
        · split
          · exact ih _ _ _
          · have := PAP_e (b := b) (z := z) p; show (PAP b z p).2 ≤ 3; omega
theorem PAR_e : (PAR b z).1 ≤ 3 := by
  unfold PAR
  split
  · split
    · exact papR_e _ _ _ _
    · exact telR_e _ _ _ _
  · have := LAW_e (b := b) (z := z); show (LAW b z).2 ≤ 3; omega
theorem c_readAll2 {Q : Int32 → II → Prop} (h : CT I b z) (h1 : (PAR b z).1 = 0 → ∀ J, DFR I J → BK True J 1 (PAR b z).2.2 → Q (nI 1) (su (tp J (PAR b z).2.1 (PAR b z).1) 301 2 (nI 0))) (h2 : ¬ (PAR b z).1 = 0 → ∀ J, DFR I J → Q (nI 0) (su (su (tp J (PAR b z).2.1 (PAR b z).1) 301 2 (nI 0)) 301 5 (nI (PAR b z).1))) : wp_X6_readAll I Q := by
  have pe := PAR_e (b := b) (z := z)
  unfold wp_X6_readAll wp_X1_clear
  simp only [forall_eq]
  have et : su (su I 301 3 (nI 0)) 301 4 (nI 0) = tp I 0 0 := by
    funext a k
    rw [su_at, su_at]
    unfold tp
    by_cases c : a = 301 ∧ k = 4
    · rw [if_pos c, if_neg (by omega), if_pos c]
    · rw [if_neg c]
      by_cases c3 : a = 301 ∧ k = 3
      · rw [if_pos c3, if_pos c3]
      · rw [if_neg c3, if_neg c3, if_neg c]
  rw [et, tp_su (by omega), tp_su (by omega), tp_su (by omega), tp_su (by omega), tp_su (by omega), tp_su (by omega), tp_su (by omega), tp_su (by omega)]
  generalize hJ0 : su (su (su (su (su (su (su (su I (8 * 1) 2 (nI 0)) (8 * 1) 3 (nI 0)) (8 * 1) 4 (nI 0)) (8 * 1) 5 (nI 0)) (8 * 1) 6 (nI 0)) (8 * 1) 7 (nI 0)) (8 * 1) 8 (nI 0)) (8 * 1) 9 (nI 0) = J0
  have j0 : ∀ k, 2 ≤ k → k ≤ 9 → J0 (8 * 1) k = nI 0 := fun k k1 k2 => by
    rw [← hJ0]
    have : k = 2 ∨ k = 3 ∨ k = 4 ∨ k = 5 ∨ k = 6 ∨ k = 7 ∨ k = 8 ∨ k = 9 := by omega
    simp only [su_at]
    rcases this with rfl | rfl | rfl | rfl | rfl | rfl | rfl | rfl <;> simp
  have jc : ∀ a, a ≠ 8 * 1 → J0 a = I a := fun a ha => by
    rw [← hJ0, su_cell ha, su_cell ha, su_cell ha, su_cell ha, su_cell ha, su_cell ha, su_cell ha, su_cell ha]
  have d0 : DFR I J0 := fun a k c1 c2 => by rw [jc a (by omega)]
  have c0 : CT J0 b z := h.fr d0
  have F : ∀ J, DFR I J → ((PAR b z).1 = 0 → BK True J 1 (PAR b z).2.2) → ((su (tp J (PAR b z).2.1 (PAR b z).1) 301 2 (nI 0) 301 4 = 0 → wp_X6_readAll_49 Q (su (tp J (PAR b z).2.1 (PAR b z).1) 301 2 (nI 0))) ∧ (¬ su (tp J (PAR b z).2.1 (PAR b z).1) 301 2 (nI 0) 301 4 = 0 → wp_X6_readAll_49 Q (su (su (tp J (PAR b z).2.1 (PAR b z).1) 301 2 (nI 0)) 301 5 (su (tp J (PAR b z).2.1 (PAR b z).1) 301 2 (nI 0) 301 4)))) := by
    intro J dj hb
    unfold wp_X6_readAll_49
    have e4 : su (tp J (PAR b z).2.1 (PAR b z).1) 301 2 (nI 0) 301 4 = nI (PAR b z).1 := by rw [su_slot (by omega), tp_4]
    have e4' : su (su (tp J (PAR b z).2.1 (PAR b z).1) 301 2 (nI 0)) 301 5 (nI (PAR b z).1) 301 4 = nI (PAR b z).1 := by rw [su_slot (by omega)]; exact e4
    rw [e4, e4', nIe0 (by omega)]
    exact ⟨fun q => ⟨fun q2 => absurd q q2, fun _ => h1 q J dj (hb q)⟩, fun q => ⟨fun _ => h2 q J dj, fun q2 => absurd q2 q⟩⟩
  refine c_law c0 _ (fun v1 v2 hv => ?_)
  generalize hJ1 : su (su J0 (8 * 1) 0 v1) (8 * 1) 1 v2 = J1
  have d1' : DFR I J1 := fun a k c1 c2 => by rw [← hJ1, su_cell (by omega), su_cell (by omega)]; exact d0 a k c1 c2
  have c1 : CT J1 b z := h.fr d1'
  have le := LAW_e (b := b) (z := z)
  unfold wp_X6_readTellers
  by_cases l0 : (LAW b z).2 = 0
  · obtain ⟨ev1, ev2⟩ := hv l0
    have ti := g1_TI l0
    have bk : BK True J1 1 (g1 b z) := by
      have s : ∀ k, 2 ≤ k → k ≤ 9 → J1 (8 * 1) k = nI 0 := fun k k1 k2 => by rw [← hJ1, su_slot (by omega), su_slot (by omega)]; exact j0 k k1 k2
      refine ⟨⟨?_, ?_, ?_, ?_, ?_, ?_, ?_, ?_⟩, fun t ht => ?_, fun k hk => ?_, fun p hp => ?_, fun p hp hk => ?_⟩
      · rw [← hJ1, su_slot (by omega), su_eq, ev1, g1, upd_ne (by omega), upd_eq]
      · rw [← hJ1, su_eq, ev2, g1, upd_eq]
      · rw [s 2 (by omega) (by omega), g1_o (by omega)]; rfl
      · rw [s 3 (by omega) (by omega), g1_o (by omega)]; rfl
      · rw [s 4 (by omega) (by omega), g1_o (by omega)]; rfl
      · rw [s 5 (by omega) (by omega), g1_o (by omega)]; rfl
      · rw [s 6 (by omega) (by omega), g1_o (by omega)]; rfl
      · rw [s 7 (by omega) (by omega), g1_o (by omega)]; rfl
      · rw [g1_n] at ht; omega
      · rw [g1_w] at hk; omega
      · rw [s 9 (by omega) (by omega), g1_o (by omega), hasB_bt (by omega), b_n0]
        unfold f0; rw [if_pos (by omega)]; simp
      · exfalso; apply hk
        rw [g1_o (by omega)]; unfold f0; rw [if_pos (by omega)]
    rw [l0]
    refine ⟨6, c_tl_loop (I := I) (R := telR b z 5 0 (LAW b z).1 (g1 b z)) (fun J dj hb => ?_) (fun n J p n4 hr hK => ?_) (fun J p hK => ?_) (fun J hK => hK) 5 0 (LAW b z).1 (g1 b z) J1 (by omega) ti LAW_le bk d1' c1 rfl⟩
    · -- the papers
      have cj : CT J b z := h.fr dj
      unfold wp_X6_readPapers
      by_cases t0 : (telR b z 5 0 (LAW b z).1 (g1 b z)).1 = 0
      · obtain ⟨n, n1, ti2, hp⟩ := telR_ok 5 0 _ _ (by omega) ti LAW_le t0
        have ep : PAR b z = papR b z 8 0 (telR b z 5 0 (LAW b z).1 (g1 b z)).2.1 (telR b z 5 0 (LAW b z).1 (g1 b z)).2.2 := by unfold PAR; rw [if_pos l0, if_pos t0]
        rw [t0]
        refine ⟨9, c_pp_loop (I := I) (R := PAR b z) (fun L dl hl => ?_) (fun L p hK => ?_) (fun L p hK => ?_) (fun L hK => hK) 8 0 _ _ J (by omega) ti2.1 ⟨ti2.2.2.2.1, fun k hk => absurd hk (by omega)⟩ hp (hb t0) dj cj ep.symm⟩
        · exact F L dl hl
        · simp only [forall_eq] at hK ⊢; rw [tp_s4]; exact hK
        · simp only [forall_eq] at hK ⊢; rw [tp_s4]; exact hK
      · have ep : PAR b z = telR b z 5 0 (LAW b z).1 (g1 b z) := by unfold PAR; rw [if_pos l0, if_neg t0]
        have te := telR_e (b := b) (z := z) 5 0 (LAW b z).1 (g1 b z)
        refine ⟨1, ?_⟩
        rw [wp_X6_readPapers_2.eq_2, tp_4]
        have c7 : ¬ 7 < 0 := by omega
        simp (disch := omega) only [nIlt, c7, Bool.true_eq_false, Bool.false_eq_true, false_implies, true_implies, not_true_eq_false, not_false_eq_true, and_true, true_and, nIe0, t0, forall_eq]
        rw [← ep]
        exact F J dj (fun q => absurd (by rw [← ep]; exact q) t0)
    · show (¬ nI n = 0 → _) ∧ (nI n = 0 → _)
      rw [nIe0 (by omega)]
      simp only [forall_eq, tp_s4]
      exact ⟨fun q => by rw [if_neg q] at hK; exact hK, fun q => by rw [if_pos q] at hK; exact hK⟩
    · simp only [forall_eq] at hK ⊢; rw [tp_s4]; exact hK
  · have ep : PAR b z = ((LAW b z).2, (LAW b z).1, f0) := by unfold PAR; rw [if_neg l0]
    refine ⟨1, ?_⟩
    rw [wp_X6_readTellers_2.eq_2, tp_4]
    have c4 : ¬ 4 < 0 := by omega
    simp (disch := omega) only [nIlt, c4, Bool.true_eq_false, Bool.false_eq_true, false_implies, true_implies, not_true_eq_false, not_false_eq_true, and_true, true_and, nIe0, l0]
    unfold wp_X6_readPapers
    refine ⟨1, ?_⟩
    rw [wp_X6_readPapers_2.eq_2, tp_4]
    have c7 : ¬ 7 < 0 := by omega
    simp (disch := omega) only [nIlt, c7, Bool.true_eq_false, Bool.false_eq_true, false_implies, true_implies, not_true_eq_false, not_false_eq_true, and_true, true_and, nIe0, l0, forall_eq]
    have := F J1 d1' (fun q => absurd (by rw [ep] at q; exact q) l0)
    rw [ep] at this
    exact this
end BANKP

section BANKQ
variable {b : Nat → Int32} {z : Nat} {I : II}
theorem m_rd_loop {Q : Int32 → II → Prop} {k43 : II → Prop} (hk : k43 (pT I 1323 f0)) : ∀ (d t : Nat) (g : TW), t + d = 49 → (∀ q, q < t → g q = f0 q) → ∃ N, wp_X8_reads_2 Q k43 N (nI t) (pT I 1323 g) := by
  intro d
  induction d with
  | zero =>
    intro t g ht hg
    refine ⟨1, ?_⟩
    rw [wp_X8_reads_2.eq_2]
    have e : t = 49 := by omega
    subst e
    refine ⟨fun _ => ?_, fun q => absurd (by rw [nIle (by omega) (by omega)]; omega) q⟩
    rw [pT_congr (g := f0) hg]
    exact hk
  | succ d ih =>
    intro t g ht hg
    obtain ⟨N, hN⟩ := ih (t + 1) (upd g t (f0 t)) (by omega) (fun q hq => by
      by_cases e : q = t
      · subst e; rw [upd_eq]
      · rw [upd_ne e]; exact hg q (by omega))
    refine ⟨N + 1, ?_⟩
    rw [wp_X8_reads_2.eq_2]
    have t49 : t < 49 := by omega
    refine ⟨fun q => absurd q (by rw [nIle (by omega) (by omega)]; omega), fun _ => ?_⟩
    rw [m_inE _ _ _ _ _ (by omega) (by omega), inB_nI (by omega) (by omega) (by omega), i1_0]
    unfold wp_X8_reads_36
    rw [nI_add, nI_add, nIvp (by omega) (by omega), nIcl (by omega)]
    simp only [forall_eq, pT_set t49]
    refine ⟨fun q => ⟨by omega, ?_⟩, fun q => ⟨by omega, ?_⟩⟩
    · have e : f0 t = nI 0 := by unfold f0; rw [if_neg (by simpa using q)]
      rw [e] at hN; exact hN
    · have e : f0 t = -nI 1 := by unfold f0; rw [if_pos (by simpa using q)]
      rw [e] at hN; exact hN
theorem mz_g1 : ∀ q, q < 49 → mz (g1 b z) q = g1 b z q := fun q _ => by
  by_cases e : q = 6
  · subst e; rw [mz, upd_eq, g1_o (by omega)]; rfl
  · rw [mz_o e]
theorem mq_self (I : II) (v : Int32) : su I 315 13 (nI 0) = mq I 0 (I 315 14) (I 315 15) := by
  funext a k
  rw [su_at]
  unfold mq
  by_cases c : a = 315 ∧ k = 13
  · rw [if_pos c, if_pos c]
  · rw [if_neg c, if_neg c]
    by_cases c2 : a = 315 ∧ k = 14
    · rw [if_pos c2, c2.1, c2.2]
    · rw [if_neg c2]
      by_cases c3 : a = 315 ∧ k = 15
      · rw [if_pos c3, c3.1, c3.2]
      · rw [if_neg c3]
theorem m_reads (h : TM I b z) (Q : Int32 → II → Prop) (h1 : (PAR b z).1 = 0 → ∀ w n', Q (nI 1) (mq (pT I 1323 (mz (PAR b z).2.2)) (PAR b z).2.1 w n')) (h2 : ¬ (PAR b z).1 = 0 → ∀ f' n', Q (nI 0) (mq (pT I 1323 f') (PAR b z).2.1 (nI (PAR b z).1) n')) : wp_X8_reads I Q := by
  have n1 : ¬ (nI 1 : Int32) = 0 := by decide
  have n0 : (nI 0 : Int32) = 0 := rfl
  unfold wp_X8_reads
  have start := m_rd_loop (I := I) (Q := Q) (k43 := (fun I => (∀ I51 : II, I51 = su I 315 13 (nI 0) → (wp_X8_readsLaw I51 (fun r54 I53 => ((¬ r54 = 0 → (wp_X8_isSort I53 (fun r57 I56 => ((¬ r57 = 0 → (∃ n160, wp_X8_reads_72 Q (fun x1 I => (∃ n159, wp_X8_reads_91 Q (fun x1 I => (wp_X8_reads_121 Q x1 I)) n159 x1 I)) n160 (nI 1) I56)) ∧ (r57 = 0 → (wp_X8_refuse (nI 1) I56 (fun r162 I161 => (isb r162 ∧ Q r162 I161)))))))) ∧ (r54 = 0 → (Q (nI 0) I53))))))))
  have fin := fun hk => start hk 49 0 (gT_ I 1323) (by omega) (fun q hq => absurd hq (by omega))
  rw [pT_self] at fin
  refine fin ?_
  simp only [forall_eq]
  rw [mq_self _ 0]
  refine m_law h _ (fun l0 n' => ?_) (fun l0 f' n' => ?_)
  · refine ⟨fun _ => ?_, fun q => absurd q n1⟩
    show wp_X8_isSort (mq (pT I 1323 (g1 b z)) (LAW b z).1 _ n') _
    have le := LAW_le (b := b) (z := z)
    refine m_isSort h le _ ?_
    rw [i1_0]
    by_cases k0 : kdP b z (LAW b z).1 = 0
    · have et : telR b z 5 0 (LAW b z).1 (g1 b z) = (1, (LAW b z).1, g1 b z) := by rw [telR, if_pos k0, if_pos rfl]
      have ep : PAR b z = (1, (LAW b z).1, g1 b z) := by unfold PAR; rw [if_pos l0, et, if_neg (by show ¬ (1 : Nat) = 0; omega)]
      rw [ep] at h2
      refine ⟨fun q => absurd (by simpa using k0) q, fun _ => ?_⟩
      unfold wp_X8_refuse
      simp only [forall_eq, mq_sw]
      exact ⟨Or.inl rfl, h2 (by show ¬ (1 : Nat) = 0; omega) _ _⟩
    · refine ⟨fun _ => ?_, fun q => absurd (by simpa using q) k0⟩
      have eg : pT I 1323 (g1 b z) = pT I 1323 (mz (g1 b z)) := pT_congr (fun q hq => (mz_g1 q hq).symm)
      rw [eg]
      refine m_tl_loop (R := telR b z 5 0 (LAW b z).1 (g1 b z)) h (fun t0 w n2 => ?_) (fun t0 f' n2 => ?_) 5 0 (LAW b z).1 (g1 b z) _ n' (by omega) (g1_TI l0) le (fun _ => k0) rfl
      · obtain ⟨n, n1', ti2, hp⟩ := telR_ok 5 0 _ _ (by omega) (g1_TI l0) le t0
        have ep : PAR b z = papR b z 8 0 (telR b z 5 0 (LAW b z).1 (g1 b z)).2.1 (telR b z 5 0 (LAW b z).1 (g1 b z)).2.2 := by unfold PAR; rw [if_pos l0, if_pos t0]
        exact m_pp_loop (R := PAR b z) h h1 h2 8 0 _ _ w n2 (by omega) ti2.1 ⟨ti2.2.2.2.1, fun k hk => absurd hk (by omega)⟩ hp ep.symm
      · have ep : PAR b z = telR b z 5 0 (LAW b z).1 (g1 b z) := by unfold PAR; rw [if_pos l0, if_neg t0]
        rw [ep] at h2
        refine ⟨1, ?_⟩
        rw [wp_X8_reads_91.eq_2]
        unfold wp_X8_reads_121
        exact ⟨fun _ => ⟨fun _ => h2 t0 _ _, fun q => absurd n0 q⟩, fun q => absurd n0 q⟩
  · have ep : PAR b z = ((LAW b z).2, (LAW b z).1, f0) := by unfold PAR; rw [if_neg l0]
    rw [ep] at h2
    exact ⟨fun q => absurd n0 q, fun _ => h2 l0 _ _⟩
end BANKQ
theorem INV.tape {I J : II} (v : INV I) (e : ∀ a k, ¬ (a = 301 ∧ (k = 2 ∨ k = 5)) → ¬ (a = 315 ∧ (k = 8 ∨ k = 9)) → J a k = I a k) (h2 : J 301 2 = nI 0) (h8 : J 315 8 = nI 0) (h5 : J 301 5 = J 315 9) : INV J := by
  obtain ⟨f, sz, lt, h, p, c, m, o, i, r, t, ms, k⟩ := v
  have ec : ∀ a, a ≠ 301 → a ≠ 315 → J a = I a := fun a h1 h2 => funext fun k => e a k (by omega) (by omega)
  exact ⟨f, sz, lt, h, p, c.fr (fun a q => ec a (by omega) (by omega)), m.fr p.2.2.1 (fun k q => e _ _ (by omega) (by omega)) ⟨e _ _ (by omega) (by omega), e _ _ (by omega) (by omega)⟩, ⟨o.1.fr ⟨ec _ (by omega) (by omega), ec _ (by omega) (by omega)⟩, o.2.fr ⟨ec _ (by omega) (by omega), ec _ (by omega) (by omega)⟩⟩, i.fr (fun a q => ec a (by omega) (by omega)) (fun k q1 q2 => e _ _ (by omega) (by omega)) (fun z => by rw [e _ _ (by omega) (by omega)]; exact z), r.fr (fun a q => ec a (by omega) (by omega)), ⟨0, by omega, h2, h8, fun i hi => absurd hi (by omega)⟩, ⟨h5, by rw [e _ _ (by omega) (by omega), e _ _ (by omega) (by omega)]; exact ms.2⟩, k.fr ⟨ec _ (by omega) (by omega), ec _ (by omega) (by omega)⟩ ⟨e _ _ (by omega) (by omega), e _ _ (by omega) (by omega)⟩⟩
def tzz (I : II) (x : Option Int32) : II := fun a k => if (a = 301 ∧ k = 2) ∨ (a = 315 ∧ k = 8) then nI 0 else if (a = 301 ∧ k = 5) ∨ (a = 315 ∧ k = 9) then x.getD (I 301 5) else I a k
theorem INV.tz {I : II} (v : INV I) (x : Option Int32) : INV (tzz I x) := by
  refine v.tape (fun a k h1 h2 => ?_) ?_ ?_ ?_
  · unfold tzz; rw [if_neg (by omega), if_neg (by omega)]
  · unfold tzz; rw [if_pos (by omega)]
  · unfold tzz; rw [if_pos (by omega)]
  · unfold tzz; rw [if_neg (by omega), if_pos (by omega), if_neg (by omega), if_pos (by omega)]
theorem tzz_o {I : II} {x : Option Int32} {a k : Nat} (h1 : ¬ (a = 301 ∧ (k = 2 ∨ k = 5))) (h2 : ¬ (a = 315 ∧ (k = 8 ∨ k = 9))) : tzz I x a k = I a k := by unfold tzz; rw [if_neg (by omega), if_neg (by omega)]
theorem tzz_0 {I : II} {x : Option Int32} {a k : Nat} (h : (a = 301 ∧ k = 2) ∨ (a = 315 ∧ k = 8)) : tzz I x a k = nI 0 := by unfold tzz; rw [if_pos h]
theorem tzz_5 {I : II} {x : Option Int32} {a k : Nat} (h : (a = 301 ∧ k = 5) ∨ (a = 315 ∧ k = 9)) : tzz I x a k = x.getD (I 301 5) := by unfold tzz; rw [if_neg (by omega), if_pos h]
theorem opn4 {n : Nat} (h : n ≤ 4) : ((nI 1 <<< (nI n &&& 31)) - nI 1 : Int32) = nI (2 ^ n - 1) := by
  have : n = 0 ∨ n = 1 ∨ n = 2 ∨ n = 3 ∨ n = 4 := by omega
  rcases this with rfl | rfl | rfl | rfl | rfl <;> decide
theorem s_bank : SIM wp_X7_bank wp_X8_bank := by
  intro I v
  obtain ⟨f, sz, lt, h, p, c, m, o, i, r, ⟨z, z1, z2, z3, z4⟩, ms, k⟩ := id v
  have ct : CT I (I 302) z := ⟨z1, z2, fun _ _ => rfl⟩
  have n1 : ¬ (nI 1 : Int32) = 0 := by decide
  have n0 : (nI 0 : Int32) = 0 := rfl
  unfold wp_X7_bank
  have pe := PAR_e (b := I 302) (z := z)
  refine c_readAll2 ct (fun e J dj bj => ?_) (fun e J dj => ?_)
  · refine ⟨fun _ => ?_, fun q => absurd q n1⟩
    obtain ⟨wg, n, n1', n4, en, e6⟩ := PAR_ok e
    generalize hL : su (tp J (PAR (I 302) z).2.1 (PAR (I 302) z).1) 301 2 (nI 0) = L
    have lk : ∀ a k, ¬ (8 ≤ a ∧ a < 16) → ¬ (a = 301 ∧ (k = 2 ∨ k = 3 ∨ k = 4)) → L a k = I a k := fun a k h1 h2 => by
      rw [← hL, su2 (by omega), tp_o (by omega)]; exact dj a k (by omega) (by omega)
    have l2 : L 301 2 = nI 0 := by rw [← hL, su_eq]
    refine c_standAs (j := 1) (g := (PAR (I 302) z).2.2) (by omega) (bj.fr (fun a h1 h2 => by rw [← hL, su_cell (by omega), tp_c (by omega)])) wg ⟨lt, c.2.2.2.1, by rw [lk _ _ (by omega) (by omega)]; exact c.2.2.1⟩ (fun K lt' kc k9 k10 kf => ?_)
    unfold wp_X8_bank
    have kI : ∀ a k, ¬ (a < 16 ∨ a = 303 ∨ a = 308) → ¬ (a = 301 ∧ (k = 2 ∨ k = 3 ∨ k = 4)) → K a k = I a k := fun a k h1 h2 => by rw [kf a k (by omega), lk a k (by omega) h2]
    have tm : TM K (I 302) z := ⟨z1, by rw [kI _ _ (by omega) (by omega)]; exact z3, fun i hi => by rw [kI _ _ (by omega) (by omega)]; exact (z4 i hi).symm⟩
    refine m_reads tm _ (fun _ w n' => ?_) (fun q => absurd e q)
    generalize hg : (PAR (I 302) z).2.2 = g at *
    generalize hM : su (mq (pT K 1323 (mz g)) (PAR (I 302) z).2.1 w n') 315 8 (nI 0) = M
    simp only [forall_eq, hM]
    refine ⟨fun _ => ?_, fun q => absurd q n1⟩
    have m16 : ∀ q, q < 49 → M 316 (1323 + q) = mz g q := fun q hq => by rw [← hM, su_cell (by omega), mq_c (by omega), pT_get hq]
    have mo : ∀ a k, ¬ (a = 316 ∧ 1323 ≤ k) → ¬ (a = 315 ∧ (k = 8 ∨ k = 13 ∨ k = 14 ∨ k = 15)) → M a k = K a k := fun a k h1 h2 => by
      rw [← hM, su2 (by omega), mq_o (by omega)]
      by_cases ha : a = 316
      · subst ha; rw [pT_row (by omega)]
      · rw [pT_oth ha]
    have m8 : M 315 8 = nI 0 := by rw [← hM, su_eq]
    have e0 : M 316 1323 = nI n := by
      have := m16 0 (by omega)
      rw [Nat.add_zero] at this
      rw [this, mz_o (by omega), wg.n.1, en]
    rw [nIvp (by omega) (by omega), nIvp (by omega) (by omega), nIcl (by omega), nIcl (by omega), e0, opn4 n4]
    refine ⟨by omega, by omega, ?_⟩
    refine m_copyTown (a := 1323) (b := 0) (f := g) (by omega) (by omega) (by omega) (fun q hq => ?_) ?_
    · by_cases q6 : q = 6
      · subst q6; rw [show 1323 + 6 = 1329 by omega, su_eq, e6]
      · rw [su_slot (by omega), m16 q hq, mz_o q6]
    · rw [nIvp (by omega) (by omega), nIcl (by omega)]
      generalize hN : su (su (pT (su M 316 1329 (nI (2 ^ n - 1))) 0 g) 315 1 (nI 1)) 315 2 (nI 0) = N
      have nr : ∀ q, q < 49 → N 316 q = g q := fun q hq => by
        rw [← hN, su_cell (by omega), su_cell (by omega)]
        have := pT_get (I := su M 316 1329 (nI (2 ^ n - 1))) (b := 0) (f := g) hq
        rw [Nat.zero_add] at this; exact this
      have no : ∀ a k, ¬ (a = 316 ∧ (k < 49 ∨ k = 1329)) → ¬ (a = 315 ∧ (k = 1 ∨ k = 2)) → N a k = M a k := fun a k h1 h2 => by
        rw [← hN, su2 (by omega), su2 (by omega)]
        by_cases ha : a = 316
        · subst ha; rw [pT_row (by omega), su_slot (by omega)]
        · rw [pT_oth ha, su_cell ha]
      refine ⟨by omega, ?_, ?_⟩
      · rw [nr 0 (by omega)]; exact kc.1.1.2.2.1
      · refine (v.tz none).act (f := g) (sz := 0) (lt := lt') (h := fun _ => g) (fun a k a1 a2 => ?_) ⟨wg, fun q => by omega, by omega, fun q => by omega, fun i hi => by omega⟩ (kc.fr (fun a ha => funext fun k => by rw [no a k (by omega) (by omega), mo a k (by omega) (by omega)])) ⟨nr, ?_, ?_, fun i hi => by omega⟩ ⟨?_, ?_⟩ (by omega)
        · unfold dA at a1
          unfold scr at a2
          by_cases h1 : (a = 301 ∧ k = 2) ∨ (a = 315 ∧ k = 8)
          · rw [tzz_0 h1, no a k (by omega) (by omega)]
            rcases h1 with ⟨rfl, rfl⟩ | ⟨rfl, rfl⟩
            · rw [mo _ _ (by omega) (by omega), kf _ _ (by omega)]; exact l2
            · exact m8
          · by_cases h2 : (a = 301 ∧ k = 5) ∨ (a = 315 ∧ k = 9)
            · rw [tzz_5 h2, no a k (by omega) (by omega), mo a k (by omega) (by omega), kI a k (by omega) (by omega)]
              rcases h2 with ⟨rfl, rfl⟩ | ⟨rfl, rfl⟩
              · rfl
              · exact ms.1.symm
            · rw [tzz_o (by omega) (by omega), no a k (by omega) (by omega), mo a k (by omega) (by omega), kI a k (by omega) (by omega)]
        · rw [← hN, su_eq]
        · rw [← hN, su_slot (by omega), su_eq, decide_eq_true (by omega)]; rfl
        · rw [no _ _ (by omega) (by omega), mo _ _ (by omega) (by omega)]; exact k9
        · rw [no _ _ (by omega) (by omega), mo _ _ (by omega) (by omega)]; exact k10
  · refine ⟨fun q => absurd n0 q, fun _ => ?_⟩
    generalize hL : su (su (tp J (PAR (I 302) z).2.1 (PAR (I 302) z).1) 301 2 (nI 0)) 301 5 (nI (PAR (I 302) z).1) = L
    have lk : ∀ a k, ¬ (8 ≤ a ∧ a < 16) → ¬ (a = 301 ∧ (k = 2 ∨ k = 3 ∨ k = 4 ∨ k = 5)) → L a k = I a k := fun a k h1 h2 => by
      rw [← hL, su2 (by omega), su2 (by omega), tp_o (by omega)]; exact dj a k (by omega) (by omega)
    have l2 : L 301 2 = nI 0 := by rw [← hL, su_slot (by omega), su_eq]
    have l3 : L 301 3 = nI (PAR (I 302) z).2.1 := by rw [← hL, su_slot (by omega), su_slot (by omega), tp_3]
    have l5 : L 301 5 = nI (PAR (I 302) z).1 := by rw [← hL, su_eq]
    rw [l3]
    unfold wp_X8_bank
    have tm : TM L (I 302) z := ⟨z1, by rw [lk _ _ (by omega) (by omega)]; exact z3, fun i hi => by rw [lk _ _ (by omega) (by omega)]; exact (z4 i hi).symm⟩
    refine m_reads tm _ (fun q => absurd q e) (fun _ f' n' => ?_)
    generalize hM : su (mq (pT L 1323 f') (PAR (I 302) z).2.1 (nI (PAR (I 302) z).1) n') 315 8 (nI 0) = M
    simp only [forall_eq, hM]
    refine ⟨fun q => absurd n0 q, fun _ => ?_⟩
    have mo : ∀ a k, ¬ (a = 316 ∧ 1323 ≤ k) → ¬ (a = 315 ∧ (k = 8 ∨ k = 13 ∨ k = 14 ∨ k = 15)) → M a k = L a k := fun a k h1 h2 => by
      rw [← hM, su2 (by omega), mq_o (by omega)]
      by_cases ha : a = 316
      · subst ha; rw [pT_row (by omega)]
      · rw [pT_oth ha]
    have m8 : M 315 8 = nI 0 := by rw [← hM, su_eq]
    have m13 : M 315 13 = nI (PAR (I 302) z).2.1 := by rw [← hM, su_slot (by omega), mq_p]
    have m14 : M 315 14 = nI (PAR (I 302) z).1 := by rw [← hM, su_slot (by omega), mq_w]
    refine ⟨by rw [su_slot (by omega), m13], ?_⟩
    refine (v.tz (some (nI (PAR (I 302) z).1))).fr (fun a k a1 => ?_)
    unfold scr at a1
    rw [m14]
    by_cases h1 : (a = 301 ∧ k = 2) ∨ (a = 315 ∧ k = 8)
    · rw [tzz_0 h1, su2 (by omega)]
      rcases h1 with ⟨rfl, rfl⟩ | ⟨rfl, rfl⟩
      · rw [mo _ _ (by omega) (by omega)]; exact l2
      · exact m8
    · by_cases h2 : (a = 301 ∧ k = 5) ∨ (a = 315 ∧ k = 9)
      · rw [tzz_5 h2]
        rcases h2 with ⟨rfl, rfl⟩ | ⟨rfl, rfl⟩
        · rw [su2 (by omega), mo _ _ (by omega) (by omega)]; exact l5
        · rw [su_eq]; rfl
      · rw [tzz_o (by omega) (by omega), su2 (by omega), mo a k (by omega) (by omega), lk a k (by omega) (by omega)]

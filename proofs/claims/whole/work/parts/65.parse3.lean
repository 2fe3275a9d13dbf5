section PARSE4
variable {b : Nat → Int32} {z : Nat} {I : II} {g : TW}
theorem m_tl_loop {Q : Int32 → II → Prop} {k91 : Int32 → II → Prop} {R : Nat × Nat × TW} (h : TM I b z) (h1 : R.1 = 0 → ∀ w n', k91 (nI 1) (mq (pT I 1323 (mz R.2.2)) R.2.1 w n')) (h2 : ¬ R.1 = 0 → ∀ f' n', k91 (nI 0) (mq (pT I 1323 f') R.2.1 (nI R.1) n')) : ∀ (d n p : Nat) (g : TW) (w n0 : Int32), n + d = 5 → TI g n → p ≤ z → (n = 0 → ¬ kdP b z p = 0) → telR b z d n p g = R → ∃ N, wp_X8_reads_72 Q k91 N (nI 1) (mq (pT I 1323 (mz g)) p w n0) := by
  have n1 : ¬ (nI 1 : Int32) = 0 := by decide
  have z0 : (nI 0 : Int32) = 0 := rfl
  intro d
  induction d with
  | zero =>
    intro n p g w n0 hn ti _ _ _
    have := ti.1.n.2
    have := ti.2.2.1
    omega
  | succ d ih =>
    intro n p g w n0 hn ti hp hk hr
    rw [telR] at hr
    by_cases k0 : kdP b z p = 0
    · rw [if_pos k0, if_neg (fun q => hk q k0)] at hr
      subst hr
      refine ⟨1, ?_⟩
      rw [wp_X8_reads_72.eq_2]
      refine ⟨fun q => absurd q n1, fun _ => ?_⟩
      refine m_isSort h hp _ (gd (fun _ => h1 rfl _ _) (fun q => absurd k0 (by simpa using q)))
    · rw [if_neg k0] at hr
      obtain ⟨pz, -, -, -⟩ := kdP_lt k0
      have go : ∀ N, (n = 4 → ∀ f' n', wp_X8_reads_72 Q k91 N (nI 0) (mq (pT I 1323 f') p (nI 3) n')) → (¬ n = 4 → (TEL b z p).2 = 0 → ∀ n', wp_X8_reads_72 Q k91 N (nI 1) (mq (pT I 1323 (mz (adT g (nI (kdP b z p)) (tD b z p) (tC b z p)))) (TEL b z p).1 w n')) → (¬ n = 4 → ¬ (TEL b z p).2 = 0 → ∀ f' n', wp_X8_reads_72 Q k91 N (nI 0) (mq (pT I 1323 f') (TEL b z p).1 (nI (TEL b z p).2) n')) → wp_X8_reads_72 Q k91 (N + 1) (nI 1) (mq (pT I 1323 (mz g)) p w n0) := fun N g1 g2 g3 => by
        rw [wp_X8_reads_72.eq_2]
        refine ⟨fun q => absurd q n1, fun _ => ?_⟩
        refine m_isSort h hp _ (gd (fun q => absurd (by simpa using q) k0) (fun _ => ?_))
        exact m_teller h ti k0 (by omega) _ g1 g2 g3
      have dead : ∀ (f' : TW) (p : Nat) (e : Nat) (n' : Int32), k91 (nI 0) (mq (pT I 1323 f') p (nI e) n') → wp_X8_reads_72 Q k91 1 (nI 0) (mq (pT I 1323 f') p (nI e) n') := fun f' p e n' q => by
        rw [wp_X8_reads_72.eq_2]
        exact ⟨fun _ => q, fun q2 => absurd z0 q2⟩
      by_cases n4 : n = 4
      · rw [if_pos n4] at hr
        subst hr
        exact ⟨2, go 1 (fun _ f' n' => dead _ _ _ _ (h2 (by show ¬ (3 : Nat) = 0; omega) _ _)) (fun q => absurd n4 q) (fun q => absurd n4 q)⟩
      · rw [if_neg n4] at hr
        by_cases t0 : (TEL b z p).2 = 0
        · rw [if_pos t0] at hr
          have all : ∀ n', ∃ N, wp_X8_reads_72 Q k91 N (nI 1) (mq (pT I 1323 (mz (adT g (nI (kdP b z p)) (tD b z p) (tC b z p)))) (TEL b z p).1 w n') := fun n' => ih (n + 1) _ _ w n' (by omega) (ti.ad (by omega) k0 t0) (TEL_le pz) (fun q => absurd q (by omega)) hr
          obtain ⟨N, hN⟩ := all (tC b z p)
          refine ⟨N + 1, ?_⟩
          rw [wp_X8_reads_72.eq_2]
          refine ⟨fun q => absurd q n1, fun _ => ?_⟩
          refine m_isSort h hp _ (gd (fun q => absurd (by simpa using q) k0) (fun _ => ?_))
          exact m_teller2 h ti k0 (by omega) _ (fun q => absurd q n4) (fun _ _ => hN) (fun _ q => absurd t0 q)
        · rw [if_neg t0] at hr
          subst hr
          exact ⟨2, go 1 (fun q => absurd q n4) (fun _ q => absurd q t0) (fun _ _ f' n' => dead _ _ _ _ (h2 t0 _ _))⟩
end PARSE4

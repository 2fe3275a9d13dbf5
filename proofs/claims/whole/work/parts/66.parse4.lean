section PARSE5
variable {b : Nat → Int32} {z : Nat} {I : II} {g : TW}
theorem QN.fr {n : Nat} (h : QN g n) (h7 : n < 7) : isFr g n := by
  obtain ⟨h1, h2⟩ := h
  refine ⟨h7, inQ_f.mpr (fun k hk e => ?_), fun i hi => inQ_t.mpr ⟨i, by omega, h2 i hi⟩⟩
  rw [h2 k (by omega)] at e; omega
theorem QN.come {n : Nat} {d x : Int32} (h : QN g n) (h7 : n < 7) : QN (cT g d x n) (n + 1) := by
  obtain ⟨h1, h2⟩ := h
  refine ⟨by rw [cT_w (by omega), h1], fun k hk => ?_⟩
  rw [cT_q h7 (by omega) (by omega), h1]
  split
  · omega
  · exact h2 k (by omega)
theorem PAP_0 {p : Nat} (h : (PAP b z p).2 = 0) : ∃ s, 1 ≤ s ∧ s ≤ 30 ∧ tD b z p = nI s := by
  obtain ⟨e1, n1⟩ := NM_0 (TK_0 h)
  exact num_in (by omega) (by omega) n1
theorem PAP_le {p : Nat} (h : p < z) : (PAP b z p).1 ≤ z := TK_le (NM_le (by show p + 1 ≤ z; omega))
theorem PAP_e (p : Nat) : (PAP b z p).2 ≤ 2 := TK_e (NM_e (by show 0 ≤ 2; omega))
theorem d1 {x : Int32} : (if x = nI 100 then 1 else 0) ≤ 1 := by split <;> omega
theorem WF.pap {n p : Nat} (hg : WF g) (hq : QN g n) (h7 : n < 7) (h : (PAP b z p).2 = 0) : WF (cT g (nI (if b p = nI 100 then 1 else 0)) (tD b z p) n) := by
  obtain ⟨s, s1, s2, e⟩ := PAP_0 h
  rw [e]
  exact hg.come d1 s1 s2 (by rw [hq.1]; exact h7) (hq.fr h7)
theorem c_pp_loop {K : II → Prop} {k43 k55 k111 : II → Prop} {R : Nat × Nat × TW} (hK : ∀ J, DFR I J → (R.1 = 0 → BK True J 1 R.2.2) → K (tp J R.2.1 R.1)) (h43 : ∀ J p, K (tp J p 1) → k43 (tp J p 0)) (h55 : ∀ J p, K (tp J p 3) → k55 (tp J p 0)) (h111 : ∀ J, K J → k111 J) : ∀ (d n p : Nat) (g : TW) (J : II), n + d = 8 → WF g → QN g n → p ≤ z → BK True J 1 g → DFR I J → CT J b z → papR b z d n p g = R → wp_X6_readPapers_2 K k43 k55 k111 (d + 1) (nI n) (tp J p 0) := by
  intro d
  induction d with
  | zero =>
    intro n p g J hn hg hq hp hb hd hc hr
    have := hg.w.2
    have := hq.1
    omega
  | succ d ih =>
    intro n p g J hn hg hq hp hb hd hc hr
    have z120 := hc.1
    have e2 : tp J p 0 301 2 = nI z := by rw [tp_o (by omega)]; exact hc.2.1
    rw [wp_X6_readPapers_2.eq_2, tp_4, e2, tp_3]
    have c7 : ¬ 7 < n := by omega
    simp (disch := omega) only [nIlt, c7, Bool.true_eq_false, Bool.false_eq_true, false_implies, true_implies, not_true_eq_false, not_false_eq_true, and_true, true_and, nIe0, nIle]
    rw [papR] at hr
    refine ⟨fun c => ?_, fun c => ?_⟩
    · rw [if_pos c] at hr
      subst hr
      exact h111 _ (hK J hd (fun _ => hb))
    · rw [if_neg c] at hr
      refine c_next hc hp _ ?_
      have eb : by_ b z p = b p := by unfold by_; rw [if_pos (by omega)]
      rw [eb]
      have go : (b p = nI 100 ∨ b p = nI 112) → wp_X6_readPapers_49 K (fun x1 I => wp_X6_readPapers_2 K k43 k55 k111 (d + 1) x1 I) k55 (nI n) (b p) (tp J p 0) := fun hl => by
        rw [if_neg (fun q => by rcases hl with u | u; exact q.1 u; exact q.2 u)] at hr
        unfold wp_X6_readPapers_49
        rw [nIeq (by omega) (by omega)]
        by_cases n7 : n = 7
        · rw [if_pos n7] at hr
          refine ⟨fun q => absurd n7 q, fun _ => ?_⟩
          subst hr
          exact h55 J p (hK J hd (fun q => absurd q (by show ¬ (3 : Nat) = 0; omega)))
        · rw [if_neg n7] at hr
          refine ⟨fun _ => ?_, fun q => absurd q n7⟩
          simp only [forall_eq, tp_3]
          rw [nI_add, tp_s3]
          have a1 : ((p + 1, 0) : Nat × Nat).1 ≤ z := by show p + 1 ≤ z; omega
          have a2 := NM_le (b := b) (lo := 1) (hi := 30) a1
          have b2 := NM_e (z := z) (b := b) (lo := 1) (hi := 30) (s := (p + 1, 0)) (by show 0 ≤ 2; omega)
          refine c_takeNumber (s := (p + 1, 0)) hc a1 (by show 0 ≤ 3; omega) (by omega) (by omega) _ (fun v hv => ?_)
          refine c_takeByte hc a2 (by omega) (by omega) _ ?_
          have fin : wp_X6_readPapers_100 K (fun x1 I => wp_X6_readPapers_2 K k43 k55 k111 (d + 1) x1 I) (nI n) v (nI (if b p = nI 100 then 1 else 0)) (tp J (PAP b z p).1 (PAP b z p).2) := by
            unfold wp_X6_readPapers_100
            refine c_join (tp_bk hb) hg (by rw [hq.1]; omega) (hq.fr (by omega)) d1 (fun L lb lo => ?_)
            have el : tp L (PAP b z p).1 (PAP b z p).2 = L := out_tp lo
            have dl : DFR I L := hd.tr (DFR.out lo)
            rw [nI_add, ← el]
            by_cases t0 : (PAP b z p).2 = 0
            · rw [if_pos t0] at hr
              obtain ⟨e1, n1⟩ := NM_0 (TK_0 t0)
              have ev : v = tD b z p := hv rfl n1
              rw [ev] at lb
              rw [t0]
              exact ih (n + 1) _ _ L (by omega) (hg.pap hq (by omega) t0) (hq.come (by omega)) (PAP_le (by omega)) lb dl (hc.fr (DFR.out lo)) hr
            · rw [if_neg t0] at hr
              have te := PAP_e (b := b) (z := z) p
              have e2' : tp L (PAP b z p).1 (PAP b z p).2 301 4 = nI (PAP b z p).2 := tp_4 _ _ _
              show wp_X6_readPapers_2 K k43 k55 k111 (d + 1) (nI (n + 1)) (tp L (PAP b z p).1 (PAP b z p).2)
              rw [wp_X6_readPapers_2.eq_2, e2']
              have c8 : ¬ 7 < n + 1 := by omega
              simp (disch := omega) only [nIlt, c8, Bool.true_eq_false, Bool.false_eq_true, false_implies, true_implies, not_true_eq_false, not_false_eq_true, and_true, true_and, nIe0, t0]
              refine h111 _ ?_
              subst hr
              exact hK L dl (fun q => absurd q t0)
          refine ⟨fun q => ?_, fun q => ?_⟩
          · rw [if_neg q] at fin; exact fin
          · rw [if_pos q] at fin; exact fin
      refine ⟨fun q => go (Or.inl q), fun q1 => ⟨fun q => go (Or.inr q), fun q2 => ?_⟩⟩
      rw [if_pos ⟨q1, q2⟩] at hr
      subst hr
      exact h43 J p (hK J hd (fun q => absurd q (by show ¬ (1 : Nat) = 0; omega)))
theorem m_paper {n p : Nat} {w n0 : Int32} (h : TM I b z) (hg : WF g) (hq : QN g n) (hn : n ≤ 7) (pz : p < z) (Q : Int32 → II → Prop) (h3 : n = 7 → ∀ f' n', Q (nI 0) (mq (pT I 1323 f') p (nI 3) n')) (h1 : ¬ n = 7 → (PAP b z p).2 = 0 → Q (nI 1) (mq (pT I 1323 (mz (cT g (nI (if b p = nI 100 then 1 else 0)) (tD b z p) n))) (PAP b z p).1 w (tD b z p))) (h2 : ¬ n = 7 → ¬ (PAP b z p).2 = 0 → ∀ f' n', Q (nI 0) (mq (pT I 1323 f') (PAP b z p).1 (nI (PAP b z p).2) n')) : wp_X8_readsPaper (mq (pT I 1323 (mz g)) p w n0) Q := by
  have z120 := h.1
  unfold wp_X8_readsPaper
  have g30 : 1330 < 1372 := by omega
  have g7 : ∀ (f : TW) (p : Nat) (w n : Int32), mq (pT I 1323 f) p w n 316 1330 = f 7 := fun f p w n => by
    rw [mq_c (by omega), show 1330 = 1323 + 7 by omega, pT_get (by omega)]
  have gg : mz g 7 = nI n := by rw [mz_o (by omega), hg.w.1, hq.1]
  simp (disch := omega) only [nIvp, nIcl, g30, Bool.true_eq_false, Bool.false_eq_true, false_implies, true_implies, not_true_eq_false, not_false_eq_true, and_true, true_and, g7, gg, nIeq]
  refine ⟨fun n7 => ?_, fun n7 => ?_⟩
  · have h1 := h1 n7
    have h2 := h2 n7
    have e3 : mq (pT I 1323 (mz g)) p w n0 321 p = b p := by rw [mq_c (by omega), pT_oth (by omega)]; exact h.2.2 p pz
    have c3 : p < 120 := by omega
    have g1 : 1345 + n < 1372 := by omega
    have g2 : 1338 + n < 1372 := by omega
    have g3 : 1331 + n < 1372 := by omega
    have n1 : ¬ (nI 1 : Int32) = 0 := by decide
    have z0 : (nI 0 : Int32) = 0 := rfl
    have ex : ∀ (f : TW) (k : Nat) (v : Int32) (p : Nat) (w n : Int32), k < 49 → su (mq (pT I 1323 f) p w n) 316 (1323 + k) v = mq (pT I 1323 (upd f k v)) p w n := fun f k v p w n hk => by rw [mq_su (by omega), pT_set hk]
    have x1 : ∀ (f : TW) (v : Int32) (p : Nat) (w n' : Int32), su (mq (pT I 1323 f) p w n') 316 (1345 + n) v = mq (pT I 1323 (upd f (22 + n) v)) p w n' := fun f v p w n' => by rw [show 1345 + n = 1323 + (22 + n) by omega]; exact ex _ _ _ _ _ _ (by omega)
    have x2 : ∀ (f : TW) (v : Int32) (p : Nat) (w n' : Int32), su (mq (pT I 1323 f) p w n') 316 (1338 + n) v = mq (pT I 1323 (upd f (15 + n) v)) p w n' := fun f v p w n' => by rw [show 1338 + n = 1323 + (15 + n) by omega]; exact ex _ _ _ _ _ _ (by omega)
    have x3 : ∀ (f : TW) (v : Int32) (p : Nat) (w n' : Int32), su (mq (pT I 1323 f) p w n') 316 (1331 + n) v = mq (pT I 1323 (upd f (8 + n) v)) p w n' := fun f v p w n' => by rw [show 1331 + n = 1323 + (8 + n) by omega]; exact ex _ _ _ _ _ _ (by omega)
    have x4 : ∀ (f : TW) (v : Int32) (p : Nat) (w n' : Int32), su (mq (pT I 1323 f) p w n') 316 1330 v = mq (pT I 1323 (upd f 7 v)) p w n' := fun f v p w n' => ex f 7 v p w n' (by omega)
    have a1 : ((p + 1, 0) : Nat × Nat).1 ≤ z := by show p + 1 ≤ z; omega
    have a2 := NM_le (b := b) (lo := 1) (hi := 30) a1
    have go : ∀ D : Nat, D = (if b p = nI 100 then 1 else 0) → wp_X8_readsPaper_49 Q (nI n) (nI D) (nI (1345 + n)) (mq (pT I 1323 (mz g)) p w n0) := fun D hD => by
      unfold wp_X8_readsPaper_49
      simp (disch := omega) only [nIvp, nIcl, g1, Bool.true_eq_false, Bool.false_eq_true, false_implies, true_implies, not_true_eq_false, not_false_eq_true, and_true, true_and, forall_eq, x1, mq_p, nI_add, mq_sp]
      refine m_number (s := (p + 1, 0)) (h.pT _) a1 rfl (by omega) (by omega) _ (fun e2 => ?_) (fun n' e2 => ?_)
      · simp (disch := omega) only [n1, Bool.true_eq_false, Bool.false_eq_true, false_implies, true_implies, not_true_eq_false, not_false_eq_true, and_true, true_and, nI_add, nIvp, nIcl, g2, g3, g30, forall_eq, mq_n, x2, x3, x4, g7]
        refine m_sign (h.pT _) a2 e2 _ (fun e5 => ⟨Or.inr rfl, ?_⟩) (fun e5 => ⟨Or.inl rfl, h2 e5 _ _⟩)
        have key := h1 e5
        have et : pT I 1323 (mz (cT g (nI (if b p = nI 100 then 1 else 0)) (tD b z p) n)) = pT I 1323 (upd (upd (upd (upd (mz g) (22 + n) (nI D)) (15 + n) (nV b z (p + 1))) (8 + n) (nI n)) 7 (upd (upd (upd (mz g) (22 + n) (nI D)) (15 + n) (nV b z (p + 1))) (8 + n) (nI n) 7 + nI 1)) := by
          refine pT_congr (fun q hq' => ?_)
          rw [upd_ne (k' := 7) (by omega), upd_ne (k' := 7) (by omega), upd_ne (k' := 7) (by omega), gg, nI_add, ← hD]
          unfold mz
          simp only [upd]
          rw [cT_at, hq.1]
          by_cases q6 : q = 6
          · rw [if_pos q6, if_neg (by omega), if_neg (by omega), if_neg (by omega), if_neg (by omega), if_pos q6]
          · rw [if_neg q6, if_neg q6]
            by_cases q7 : q = 7
            · rw [if_pos q7, if_pos q7]
            · rw [if_neg q7, if_neg q7]
              by_cases q8 : q = 8 + n
              · rw [if_pos q8, if_pos q8]
              · rw [if_neg q8, if_neg q8]
                by_cases q22 : q = 22 + n
                · rw [if_pos q22, if_neg (by omega), if_pos q22]
                · rw [if_neg q22, if_neg q22]; rfl
        rw [et] at key
        exact key
      · have e5 : PAP b z p = NM b z 1 30 (p + 1, 0) := TK_f e2
        rw [e5] at h2
        exact ⟨fun q => absurd z0 q, fun _ => h2 e2 _ _⟩
    rw [mq_p]
    simp (disch := omega) only [nIvp, nIcl, c3, Bool.true_eq_false, Bool.false_eq_true, false_implies, true_implies, not_true_eq_false, not_false_eq_true, and_true, true_and, e3, nI_add]
    refine ⟨fun q => go 0 (by rw [if_neg q]), fun q => go 1 (by rw [if_pos q])⟩
  · unfold wp_X8_refuse
    simp only [forall_eq, mq_sw]
    exact ⟨Or.inl rfl, h3 n7 _ _⟩
theorem m_pp_loop {Q : Int32 → II → Prop} {R : Nat × Nat × TW} (h : TM I b z) (h1 : R.1 = 0 → ∀ w n', Q (nI 1) (mq (pT I 1323 (mz R.2.2)) R.2.1 w n')) (h2 : ¬ R.1 = 0 → ∀ f' n', Q (nI 0) (mq (pT I 1323 f') R.2.1 (nI R.1) n')) : ∀ (d n p : Nat) (g : TW) (w n0 : Int32), n + d = 8 → WF g → QN g n → p ≤ z → papR b z d n p g = R → ∃ N, wp_X8_reads_91 Q (fun x1 I => wp_X8_reads_121 Q x1 I) N (nI 1) (mq (pT I 1323 (mz g)) p w n0) := by
  have n1 : ¬ (nI 1 : Int32) = 0 := by decide
  have z0 : (nI 0 : Int32) = 0 := rfl
  have z120 := h.1
  intro d
  induction d with
  | zero =>
    intro n p g w n0 hn hg hq _ _
    have := hg.w.2
    have := hq.1
    omega
  | succ d ih =>
    intro n p g w n0 hn hg hq hp hr
    rw [papR] at hr
    have e8 : mq (pT I 1323 (mz g)) p w n0 315 8 = nI z := by rw [mq_o (by omega), pT_oth (by omega)]; exact h.2.1
    have stop : lt_ b z 100 p = false → lt_ b z 112 p = false → wp_X8_reads_121 Q (nI 1) (mq (pT I 1323 (mz g)) p w n0) → ∃ N, wp_X8_reads_91 Q (fun x1 I => wp_X8_reads_121 Q x1 I) N (nI 1) (mq (pT I 1323 (mz g)) p w n0) := fun l1 l2 hq => by
      refine ⟨1, ?_⟩
      rw [wp_X8_reads_91.eq_2]
      refine ⟨fun q => absurd q n1, fun _ => ?_⟩
      refine m_isLet (h.pT _) hp _ (gd' (fun _ => ?_) (fun q => by rw [l1] at q; cases q))
      exact m_isLet (h.pT _) hp _ (gd (fun _ => hq) (fun q => by rw [l2] at q; cases q))
    by_cases c : z ≤ p
    · rw [if_pos c] at hr
      subst hr
      refine stop (by unfold lt_; rw [decide_eq_false (by omega)]; rfl) (by unfold lt_; rw [decide_eq_false (by omega)]; rfl) ?_
      unfold wp_X8_reads_121 wp_X8_reads_144
      rw [mq_p, e8, nIeq (by omega) (by omega)]
      exact ⟨fun q => absurd q n1, fun _ => ⟨fun _ => h1 rfl _ _, fun q => absurd (by omega) q⟩⟩
    · rw [if_neg c] at hr
      by_cases hl : ¬ b p = nI 100 ∧ ¬ b p = nI 112
      · rw [if_pos hl] at hr
        subst hr
        refine stop (by unfold lt_; rw [decide_eq_false hl.1, Bool.and_false]) (by unfold lt_; rw [decide_eq_false hl.2, Bool.and_false]) ?_
        unfold wp_X8_reads_121 wp_X8_refuse
        rw [mq_p, e8, nIeq (by omega) (by omega)]
        simp only [forall_eq, mq_sw]
        exact ⟨fun q => absurd q n1, fun _ => ⟨fun q => by omega, fun _ => ⟨fun _ => h2 (by show ¬ (1 : Nat) = 0; omega) _ _, fun q => absurd z0 q⟩⟩⟩
      · rw [if_neg hl] at hr
        have hl2 : ∀ P : Prop, (lt_ b z 100 p = false → lt_ b z 112 p = false → P) := fun P l1 l2 => by
          unfold lt_ at l1 l2
          rw [decide_eq_true (show p < z by omega), Bool.true_and] at l1 l2
          exact absurd ⟨by simpa using l1, by simpa using l2⟩ hl
        have go : ∀ N, wp_X8_readsPaper (mq (pT I 1323 (mz g)) p w n0) (fun r2 I1 => wp_X8_reads_91 Q (fun x1 I => wp_X8_reads_121 Q x1 I) N r2 I1) → wp_X8_reads_91 Q (fun x1 I => wp_X8_reads_121 Q x1 I) (N + 1) (nI 1) (mq (pT I 1323 (mz g)) p w n0) := fun N hN => by
          rw [wp_X8_reads_91.eq_2]
          refine ⟨fun q => absurd q n1, fun _ => ?_⟩
          refine m_isLet (h.pT _) hp _ (gd' (fun l1 => ?_) (fun _ => hN))
          exact m_isLet (h.pT _) hp _ (gd (fun l2 => hl2 _ l1 l2) (fun _ => hN))
        have dead : ∀ (f' : TW) (p : Nat) (e : Nat) (n' : Int32), Q (nI 0) (mq (pT I 1323 f') p (nI e) n') → wp_X8_reads_91 Q (fun x1 I => wp_X8_reads_121 Q x1 I) 1 (nI 0) (mq (pT I 1323 f') p (nI e) n') := fun f' p e n' q => by
          rw [wp_X8_reads_91.eq_2]
          unfold wp_X8_reads_121
          exact ⟨fun _ => ⟨fun _ => q, fun q2 => absurd z0 q2⟩, fun q2 => absurd z0 q2⟩
        by_cases n7 : n = 7
        · rw [if_pos n7] at hr
          subst hr
          exact ⟨2, go 1 (m_paper h hg hq (by omega) (by omega) _ (fun _ f' n' => dead _ _ _ _ (h2 (by show ¬ (3 : Nat) = 0; omega) _ _)) (fun q => absurd n7 q) (fun q => absurd n7 q))⟩
        · rw [if_neg n7] at hr
          by_cases t0 : (PAP b z p).2 = 0
          · rw [if_pos t0] at hr
            obtain ⟨N, hN⟩ := ih (n + 1) _ _ w (tD b z p) (by omega) (hg.pap hq (by omega) t0) (hq.come (by omega)) (PAP_le (by omega)) hr
            exact ⟨N + 1, go N (m_paper h hg hq (by omega) (by omega) _ (fun q => absurd q n7) (fun _ _ => hN) (fun _ q => absurd t0 q))⟩
          · rw [if_neg t0] at hr
            subst hr
            exact ⟨2, go 1 (m_paper h hg hq (by omega) (by omega) _ (fun q => absurd q n7) (fun _ q => absurd q t0) (fun _ _ f' n' => dead _ _ _ _ (h2 t0 _ _)))⟩
end PARSE5

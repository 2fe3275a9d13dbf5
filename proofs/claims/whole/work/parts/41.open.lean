/-! ===== fewest counters ===== -/
section OPN
variable {s : Prop} {I : II} {f : TW}
theorem tn_sl (f : TW) (w p : Nat) : tn (leaveT (serveT f p) w) = tn f := by
  rw [tn, leaveT, upd_ne (by omega), mvT_oth _ _ 0 (by omega), serveT]
  split
  · rw [upd_ne (by omega)]; rfl
  · rw [takeT, upd_ne (by omega), upd_ne (by omega), upd_ne (by omega)]; rfl
theorem tw_pass (hf : WF f) : tw (passF f) = tw f - 1 := by
  have n4 := hf.n.2
  have w7 := hf.w.2
  rw [passF]
  by_cases h : tw f = 0
  · rw [if_pos h, tw, finT_oth f n4 (by omega) (by omega)]
    show tw f = tw f - 1
    omega
  · rw [if_neg h, tw, finT_oth _ (by rw [tn_sl]; exact n4) (by omega) (by omega), leaveT, upd_eq, nI_clamp (by omega)]
theorem passF5 (hf : WF f) (h : 0 < tw f) : passF f 5 = f 5 + (if passR f = (-nI 1000000) then nI 1 else nI 0) := by
  have n4 := hf.n.2
  have h' : ¬ tw f = 0 := by omega
  rw [passF, if_neg h', finT_oth _ (by rw [tn_sl]; exact n4) (by omega) (by omega), leaveT, upd_ne (by omega), mvT_oth _ _ 5 (by omega), passR, if_neg h', serveT]
  by_cases e : wT f (tq f 0) (tn f) = (-nI 1000000)
  · rw [if_pos e, if_pos e, upd_eq]
  · rw [if_neg e, if_neg e, takeT, upd_ne (by omega), upd_ne (by omega), upd_ne (by omega), nI_0, Int32.add_zero]
theorem passF4 (hf : WF f) (h : 0 < tw f) : passF f 4 = f 4 + (if passR f = (-nI 1000000) then nI 0 else nI 1) := by
  have n4 := hf.n.2
  have h' : ¬ tw f = 0 := by omega
  rw [passF, if_neg h', finT_oth _ (by rw [tn_sl]; exact n4) (by omega) (by omega), leaveT, upd_ne (by omega), mvT_oth _ _ 4 (by omega), passR, if_neg h', serveT]
  by_cases e : wT f (tq f 0) (tn f) = (-nI 1000000)
  · rw [if_pos e, if_pos e, upd_ne (by omega), nI_0, Int32.add_zero]
  · rw [if_neg e, if_neg e, upd_ne (by omega), upd_eq]
theorem itF_w (hf : WF f) : ∀ t, tw (itF f t) = tw f - t := by
  intro t
  induction t with
  | zero => rfl
  | succ t ih => rw [itF, tw_pass (itF_wf hf t), ih]; omega
def unC (f : TW) : Nat → Nat → Nat
  | 0, _ => 0
  | d + 1, t => (if passR (itF f t) = (-nI 1000000) then 1 else 0) + unC f d (t + 1)
theorem unC_le (f : TW) : ∀ d t, unC f d t ≤ d := by
  intro d
  induction d with
  | zero => intro t; exact Nat.le_refl _
  | succ d ih => intro t; rw [unC]; have := ih (t + 1); split <;> omega
theorem itF5 (hf : WF f) : ∀ d t, t + d ≤ tw f → itF f (t + d) 5 = itF f t 5 + nI (unC f d t) := by
  intro d
  induction d with
  | zero => intro t _; rw [unC, nI_0, Int32.add_zero]; rfl
  | succ d ih =>
    intro t ht
    rw [show t + (d + 1) = t + 1 + d by omega, ih (t + 1) (by omega), itF, passF5 (itF_wf hf t) (by rw [itF_w hf]; omega), unC, Int32.add_assoc]
    congr 1
    split <;> rw [nI_add]
theorem paN_un (f : TW) : ∀ d t, (paN f d t = t + d) = (unC f d t = 0) := by
  intro d
  induction d with
  | zero => intro t; simp [paN, unC]
  | succ d ih =>
    intro t
    rw [paN, unC]
    split
    · apply propext; constructor <;> intro h <;> omega
    · have := ih (t + 1)
      rw [show t + (d + 1) = t + 1 + d by omega, this, Nat.zero_add]
theorem all_paid (hf : WF f) : (itF f (tw f) 5 = f 5) = (paN f (tw f) 0 = tw f) := by
  have h := itF5 hf (tw f) 0 (by omega)
  rw [Nat.zero_add] at h
  have h2 := paN_un f (tw f) 0
  rw [Nat.zero_add] at h2
  rw [h2, h]
  have hl := unC_le f (tw f) 0
  have w7 := hf.w.2
  apply propext
  constructor
  · intro e
    have e2 : nI (unC f (tw f) 0) = nI 0 := by
      have : itF f 0 5 = f 5 := rfl
      rw [this] at e
      have e3 : f 5 + nI (unC f (tw f) 0) = f 5 + 0 := by rw [e, Int32.add_zero]
      rw [nI_0]
      exact (Int32.add_right_inj _).mp e3
    rwa [nIeq (by omega) (by omega)] at e2
  · intro e; rw [e, nI_0, Int32.add_zero]; rfl
def pcN (n : Nat) : Nat := n % 2 + n / 2 % 2 + n / 4 % 2 + n / 8 % 2
theorem lt16 {n : Nat} (h : n < 16) : n = 0 ∨ n = 1 ∨ n = 2 ∨ n = 3 ∨ n = 4 ∨ n = 5 ∨ n = 6 ∨ n = 7 ∨ n = 8 ∨ n = 9 ∨ n = 10 ∨ n = 11 ∨ n = 12 ∨ n = 13 ∨ n = 14 ∨ n = 15 := by omega
theorem pcN_le (n : Nat) : pcN n ≤ 4 := by unfold pcN; omega
theorem k_bitCount {n : Nat} (h : n < 16) (Q : Int32 → II → Prop) : wp_J6_bitCount_0f7a4 (nI n) I Q = Q (nI (pcN n)) I := by
  unfold wp_J6_bitCount_0f7a4
  congr 1
  rcases lt16 h with rfl | rfl | rfl | rfl | rfl | rfl | rfl | rfl | rfl | rfl | rfl | rfl | rfl | rfl | rfl | rfl <;> decide
theorem m_bits {n : Nat} (h : n < 16) {Q : Int32 → II → Prop} (hq : Q (nI (pcN n)) I) : wp_X8_bits (nI n) I Q := by
  unfold wp_X8_bits
  refine ⟨8, ?_⟩
  have c : ∀ k : Nat, k < 7 → (¬ (nI 7 : Int32) ≤ nI k) := fun k hk => by rw [nIle (by omega) (by omega)]; omega
  rw [wp_X8_bits_4.eq_2, wp_X8_bits_4.eq_2, wp_X8_bits_4.eq_2, wp_X8_bits_4.eq_2, wp_X8_bits_4.eq_2, wp_X8_bits_4.eq_2, wp_X8_bits_4.eq_2, wp_X8_bits_4.eq_2]
  simp only [nI_add, Nat.zero_add, Nat.reduceAdd]
  refine ⟨fun z => absurd z (c 0 (by omega)), fun _ => ⟨fun z => absurd z (c 1 (by omega)), fun _ => ⟨fun z => absurd z (c 2 (by omega)), fun _ => ⟨fun z => absurd z (c 3 (by omega)), fun _ => ⟨fun z => absurd z (c 4 (by omega)), fun _ => ⟨fun z => absurd z (c 5 (by omega)), fun _ => ⟨fun z => absurd z (c 6 (by omega)), fun _ => ⟨fun _ => ?_, fun z => absurd (by decide) z⟩⟩⟩⟩⟩⟩⟩⟩
  have e : ∀ m : Nat, m < 16 → nI 0 + (nI m >>> (nI 0 &&& 31) &&& nI 1) + (nI m >>> (nI 1 &&& 31) &&& nI 1) + (nI m >>> (nI 2 &&& 31) &&& nI 1) + (nI m >>> (nI 3 &&& 31) &&& nI 1) + (nI m >>> (nI 4 &&& 31) &&& nI 1) + (nI m >>> (nI 5 &&& 31) &&& nI 1) + (nI m >>> (nI 6 &&& 31) &&& nI 1) = nI (pcN m) := fun m hm => by
    rcases lt16 hm with rfl | rfl | rfl | rfl | rfl | rfl | rfl | rfl | rfl | rfl | rfl | rfl | rfl | rfl | rfl | rfl <;> decide
  rw [e n h]
  exact hq
def opn (f : TW) : Nat → Nat → Int32 → Int32
  | 0, _, b => b
  | d + 1, t, b => opn f d (t + 1) (if (b = (-nI 1000000) ∨ pcN t < pcN b.toNatClampNeg) ∧ paN (upd f 6 (nI t)) (tw f) 0 = tw f then nI t else b)
def oB (b : Int32) : Prop := b = (-nI 1000000) ∨ ∃ n, n < 16 ∧ b = nI n
theorem opn_ok (f : TW) : ∀ d t b, t + d ≤ 16 → oB b → oB (opn f d t b) := by
  intro d
  induction d with
  | zero => intro t b _ h; exact h
  | succ d ih =>
    intro t b ht hb
    rw [opn]
    refine ih (t + 1) _ (by omega) ?_
    split
    · exact Or.inr ⟨t, by omega, rfl⟩
    · exact hb
theorem WF.opn6 (hf : WF f) (x : Int32) : WF (upd f 6 x) := by
  refine hf.ch (fun q hq => upd_ne (by omega)) (fun t ht => ?_)
  rw [upd_ne (by omega)]; exact (hf.te ht).2.2.2
theorem shl4 {n : Nat} (h : n ≤ 4) : (nI 1 : Int32) <<< (nI n &&& 31) = nI (2 ^ n) := by
  have : n = 0 ∨ n = 1 ∨ n = 2 ∨ n = 3 ∨ n = 4 := by omega
  rcases this with rfl | rfl | rfl | rfl | rfl <;> decide
theorem c_op_loop {Q : Int32 → II → Prop} {k : Int32 → II → Prop} {r : Int32} (h : BK True I 0 f) (hf : WF f) (h0 : 0 < tn f) (hk : ∀ J, OUT 2 I J → k r J) : ∀ (d t : Nat) (b : Int32) (J : II), t + d = 2 ^ tn f → oB b → opn f d t b = r → OUT 2 I J → wp_X2_fewestCounters_5 0 Q k (d + 1) b (nI t) J := by
  have hn := hf.n
  have hw := hf.w
  have p16 : 2 ^ tn f ≤ 16 := by
    have := Nat.pow_le_pow_right (show 0 < 2 by omega) hn.2
    omega
  intro d
  induction d with
  | zero =>
    intro t b J ht hb hr ho
    rw [wp_X2_fewestCounters_5.eq_2]
    have e2 : J (8 * 0) 2 = nI (tn f) := by rw [ho (8 * 0) (by omega), h.1.2.2.1, hn.1]
    have c : 2 ^ tn f ≤ t := by omega
    rw [opn] at hr
    subst hr
    rw [e2, shl4 hn.2]
    simp (disch := omega) only [nIle, c, Bool.true_eq_false, Bool.false_eq_true, false_implies, true_implies, not_true_eq_false, not_false_eq_true, and_true, true_and]
    exact ⟨fun _ => hk J ho, fun _ => hk J ho⟩
  | succ d ih =>
    intro t b J ht hb hr ho
    rw [wp_X2_fewestCounters_5.eq_2]
    have e2 : J (8 * 0) 2 = nI (tn f) := by rw [ho (8 * 0) (by omega), h.1.2.2.1, hn.1]
    have c : ¬ 2 ^ tn f ≤ t := by omega
    have c16 : ¬ 16 ≤ t := by omega
    rw [opn] at hr
    rw [e2, shl4 hn.2]
    simp (disch := omega) only [nIle, c, c16, Bool.true_eq_false, Bool.false_eq_true, false_implies, true_implies, not_true_eq_false, not_false_eq_true, and_true, true_and]
    have skip : ¬ (b = (-nI 1000000) ∨ pcN t < pcN b.toNatClampNeg) → wp_X2_fewestCounters_70 0 Q (fun x2 x3 I => wp_X2_fewestCounters_5 0 Q k (d + 1) x2 x3 I) b (nI t) J := fun z => by
      unfold wp_X2_fewestCounters_70
      rw [nI_add]
      rw [if_neg (fun q => z q.1)] at hr
      exact ih (t + 1) b J (by omega) hb hr ho
    have run : (b = (-nI 1000000) ∨ pcN t < pcN b.toNatClampNeg) → wp_X2_fewestCounters_41 0 Q (fun x2 x3 I => wp_X2_fewestCounters_5 0 Q k (d + 1) x2 x3 I) b (nI t) J := fun z => by
      unfold wp_X2_fewestCounters_41
      refine c_takeAll (by omega) (fun K hK => ?_)
      have jb : BK True J 0 f := h.fr (fun a _ _ => ho a (by omega))
      have kb := hK.bk jb hn.2 hw.2
      simp only [forall_eq]
      have lb := kb.num 3 6 (nI t) (by omega)
      have ew : tw (upd f 6 (nI t)) = tw f := by rw [tw, upd_ne (by omega)]; rfl
      have en : tn (upd f 6 (nI t)) = tn f := by rw [tn, upd_ne (by omega)]; rfl
      refine c_ghostPaid lb (hf.opn6 (nI t)) (by rw [en]; exact h0) (fun L lo => ?_)
      have ol : OUT 2 I L := (ho.tr hK.2.2.2).tr (((OUT.rf 2 K).su (by omega)).tr lo)
      have e7 : L (8 * 0) 7 = nI (tw f) := by rw [ol (8 * 0) (by omega), h.1.2.2.2.2.2.2.2, hw.1]
      have pl := paN_le (upd f 6 (nI t)) (tw f) 0
      rw [e7, ew, nIeq (by omega) (by omega)]
      unfold wp_X2_fewestCounters_70
      rw [nI_add]
      refine ⟨fun q => ?_, fun q => ?_⟩
      · rw [if_neg (fun u => q u.2)] at hr
        exact ih (t + 1) b L (by omega) hb hr ol
      · rw [if_pos ⟨z, q⟩] at hr
        exact ih (t + 1) (nI t) L (by omega) (Or.inr ⟨t, by omega, rfl⟩) hr ol
    refine ⟨fun e => run (Or.inl e), fun e => ?_⟩
    rcases hb with z | ⟨m, hm, rfl⟩
    · exact absurd z e
    · rw [k_bitCount (by omega), k_bitCount hm]
      have l1 := pcN_le t
      have l2 := pcN_le m
      rw [nIlt (by omega) (by omega)]
      rw [nIcl (by omega)] at skip run
      exact ⟨fun q => run (Or.inr q), fun q => skip (fun u => by rcases u with u | u; exact e u; exact q u)⟩
theorem m_op_loop {Q : Int32 → II → Prop} {k : Int32 → Int32 → II → Prop} {r x : Int32} (hf : WF f) (hk : ∀ J, FRA I J → k x r J) : ∀ (d t : Nat) (b : Int32) (J : II), t + d = 2 ^ tn f → oB b → opn f d t b = r → FRA I J → TNW J f → ∃ N, wp_X8_open_28 Q k N x b (nI t) J := by
  have hn := hf.n
  have hw := hf.w
  have g0 : 0 < 1372 := by omega
  have g7 : 7 < 1372 := by omega
  have g5 : 5 < 1372 := by omega
  have g28 : 1328 < 1372 := by omega
  have g29 : 1329 < 1372 := by omega
  have p16 : 2 ^ tn f ≤ 16 := by
    have := Nat.pow_le_pow_right (show 0 < 2 by omega) hn.2
    omega
  intro d
  induction d with
  | zero =>
    intro t b J ht hb hr ho hj
    refine ⟨1, ?_⟩
    rw [wp_X8_open_28.eq_2]
    have e0 : J 316 0 = nI (tn f) := by rw [hj.1 0 (by omega), hn.1]
    have c : 2 ^ tn f ≤ t := by omega
    rw [opn] at hr
    subst hr
    simp (disch := omega) only [nIvp, nIcl, g0, e0, shl4 hn.2, nIle, c, Bool.true_eq_false, Bool.false_eq_true, false_implies, true_implies, not_true_eq_false, not_false_eq_true, and_true, true_and]
    exact hk J ho
  | succ d ih =>
    intro t b J ht hb hr ho hj
    have e0 : J 316 0 = nI (tn f) := by rw [hj.1 0 (by omega), hn.1]
    have c : ¬ 2 ^ tn f ≤ t := by omega
    rw [opn] at hr
    by_cases z : b = (-nI 1000000) ∨ pcN t < pcN b.toNatClampNeg
    · have ew : tw (upd f 6 (nI t)) = tw f := by rw [tw, upd_ne (by omega)]; rfl
      have fr : FRA J (pT J 1323 (itF (upd f 6 (nI t)) (tw f))) := FRA.pT _ _
      obtain ⟨b', hb', N, hN⟩ : ∃ b', b' = (if paN (upd f 6 (nI t)) (tw f) 0 = tw f then nI t else b) ∧ ∃ N, wp_X8_open_28 Q k N x b' (nI (t + 1)) (pT J 1323 (itF (upd f 6 (nI t)) (tw f))) := by
        refine ⟨_, rfl, ih (t + 1) _ _ (by omega) ?_ ?_ (ho.tr fr) (hj.fr fr)⟩
        · split
          · exact Or.inr ⟨t, by omega, rfl⟩
          · exact hb
        · rw [← hr]
          congr 1
          by_cases q : paN (upd f 6 (nI t)) (tw f) 0 = tw f
          · rw [if_pos q, if_pos ⟨z, q⟩]
          · rw [if_neg q, if_neg (fun u => q u.2)]
      have run : wp_X8_open_57 Q (fun x1 x2 x3 I => wp_X8_open_28 Q k N x1 x2 x3 I) x b (nI t) J := by
        unfold wp_X8_open_57
        refine m_layTried hf hj.1 (by omega) ?_
        have e6 : su (pT J 1323 (itF f 0)) 316 1329 (nI t) = pT J 1323 (upd f 6 (nI t)) := by
          rw [show 1329 = 1323 + 6 by omega, pT_set (by omega)]; rfl
        have e7 : ∀ g, pT J 1323 g 316 7 = nI (tw f) := fun g => by rw [(hj.pT g).1 7 (by omega), hw.1]
        simp (disch := omega) only [nIvp, nIcl, g29, g7, forall_eq, e6, e7, Bool.true_eq_false, Bool.false_eq_true, false_implies, true_implies, not_true_eq_false, not_false_eq_true, and_true, true_and]
        refine m_passes (by omega) (hf.opn6 (nI t)) (by omega) ?_
        have e5 : ∀ g, pT J 1323 g 316 5 = f 5 := fun g => (hj.pT g).1 5 (by omega)
        have e28 : ∀ g, pT J 1323 g 316 1328 = g 5 := fun g => by rw [show 1328 = 1323 + 5 by omega, pT_get (by omega)]
        have ap := all_paid (hf.opn6 (nI t))
        rw [ew, upd_ne (f := f) (k := 6) (k' := 5) (by omega)] at ap
        simp (disch := omega) only [nIvp, nIcl, g28, g5, e28, e5, ap, Bool.true_eq_false, Bool.false_eq_true, false_implies, true_implies, not_true_eq_false, not_false_eq_true, and_true, true_and, wp_X8_open_107, wp_X8_open_108, nI_add]
        refine ⟨fun q => ?_, fun q => ?_⟩
        · rw [if_neg q] at hb'; rw [← hb']; exact hN
        · rw [if_pos q] at hb'
          rw [hb'] at hN; exact hN
      refine ⟨N + 1, ?_⟩
      rw [wp_X8_open_28.eq_2]
      simp (disch := omega) only [nIvp, nIcl, g0, e0, shl4 hn.2, nIle, c, Bool.true_eq_false, Bool.false_eq_true, false_implies, true_implies, not_true_eq_false, not_false_eq_true, and_true, true_and]
      refine ⟨fun _ => run, fun e => ?_⟩
      rcases hb with u | ⟨m, hm, rfl⟩
      · exact absurd u e
      · refine m_bits (by omega) (m_bits hm ?_)
        have l1 := pcN_le t
        have l2 := pcN_le m
        rw [nIcl (by omega)] at z
        have z : pcN t < pcN m := by rcases z with u | u; exact absurd u e; exact u
        rw [nIle (by omega) (by omega)]
        exact ⟨fun q => by omega, fun _ => run⟩
    · rw [if_neg (fun u => z u.1)] at hr
      obtain ⟨N, hN⟩ := ih (t + 1) b J (by omega) hb hr ho hj
      refine ⟨N + 1, ?_⟩
      rw [wp_X8_open_28.eq_2]
      simp (disch := omega) only [nIvp, nIcl, g0, e0, shl4 hn.2, nIle, c, Bool.true_eq_false, Bool.false_eq_true, false_implies, true_implies, not_true_eq_false, not_false_eq_true, and_true, true_and]
      refine ⟨fun e => absurd (Or.inl e) z, fun e => ?_⟩
      rcases hb with u | ⟨m, hm, rfl⟩
      · exact absurd u e
      · refine m_bits (by omega) (m_bits hm ?_)
        have l1 := pcN_le t
        have l2 := pcN_le m
        rw [nIcl (by omega)] at z
        rw [nIle (by omega) (by omega)]
        unfold wp_X8_open_108
        rw [nI_add]
        exact ⟨fun _ => hN, fun q => absurd (Or.inr (by omega)) z⟩
end OPN
theorem s_open (x : Int32) : SIM (wp_X7_open x) (wp_X8_open x) := by
  refine SIM.qr (fun I f v hf hz c m => ?_)
  have hn := hf.n
  unfold wp_X7_open wp_X8_open
  by_cases h0 : 0 < tn f
  · cases hx : inB 0 1 x with
    | false =>
      refine ⟨-nI 1000001, fun Q hQ => ?_, fun J Q hJ mj hQ => ?_⟩
      · rw [c_isThere c hf, decide_eq_true h0, i1_0, k_isChoice, hx, i1_0]; simp only [Bool.true_eq_false, Bool.false_eq_true, false_implies, true_implies, not_true_eq_false, not_false_eq_true, and_true, true_and]; exact hQ I (FRA.rf I)
      · rw [mj.2, decide_eq_true h0, i1_0, m_inE _ _ _ _ _ (by omega) (by omega), hx, i1_0]; simp only [Bool.true_eq_false, Bool.false_eq_true, false_implies, true_implies, not_true_eq_false, not_false_eq_true, and_true, true_and]; exact hQ J (FRA.rf J)
    | true =>
      have ok : oB (opn f (2 ^ tn f) 0 (-nI 1000000)) := opn_ok f _ _ _ (by
        have := Nat.pow_le_pow_right (show 0 < 2 by omega) hn.2
        omega) (Or.inl rfl)
      refine ⟨if x = nI 1 ∨ opn f (2 ^ tn f) 0 (-nI 1000000) = (-nI 1000000) then opn f (2 ^ tn f) 0 (-nI 1000000) else nI (pcN (opn f (2 ^ tn f) 0 (-nI 1000000)).toNatClampNeg), fun Q hQ => ?_, fun J Q hJ mj hQ => ?_⟩
      · rw [c_isThere c hf, decide_eq_true h0, i1_0, k_isChoice, hx, i1_0]
        simp only [Bool.true_eq_false, Bool.false_eq_true, false_implies, true_implies, not_true_eq_false, not_false_eq_true, and_true, true_and]
        refine ⟨_, c_op_loop c hf h0 (fun J jo => ?_) (2 ^ tn f) 0 (-nI 1000000) I (by omega) (Or.inl rfl) rfl (OUT.rf 2 I)⟩
        have fr := FRA.out (j := 2) (by omega) jo
        unfold wp_X7_open_46
        refine ⟨fun e => ?_, fun e => ⟨fun e2 => ?_, fun e2 => ?_⟩⟩
        · rw [if_pos (Or.inl e)] at hQ; exact hQ J fr
        · rw [if_neg (fun u => by rcases u with u | u; exact e u; exact e2 u)] at hQ
          rcases ok with u | ⟨b, hb, u⟩
          · exact absurd u e2
          · rw [u, nIcl (by omega)] at hQ
            rw [u, k_bitCount hb]; exact hQ J fr
        · rw [if_pos (Or.inr e2)] at hQ; exact hQ J fr
      · rw [mj.2, decide_eq_true h0, i1_0, m_inE _ _ _ _ _ (by omega) (by omega), hx, i1_0]
        simp only [Bool.true_eq_false, Bool.false_eq_true, false_implies, true_implies, not_true_eq_false, not_false_eq_true, and_true, true_and]
        refine m_op_loop hf (fun K ko => ?_) (2 ^ tn f) 0 (-nI 1000000) J (by omega) (Or.inl rfl) rfl (FRA.rf J) mj
        unfold wp_X8_open_125
        refine ⟨fun e => ?_, fun e => ⟨fun e2 => ?_, fun e2 => ?_⟩⟩
        · rw [if_pos (Or.inr e)] at hQ; exact hQ K ko
        · rw [if_neg (fun u => by rcases u with u | u; exact e2 u; exact e u)] at hQ
          rcases ok with u | ⟨b, hb, u⟩
          · exact absurd u e
          · rw [u, nIcl (by omega)] at hQ
            rw [u]; exact m_bits hb (hQ K ko)
        · rw [if_pos (Or.inl e2)] at hQ; exact hQ K ko
  · refine ⟨-nI 1000002, fun Q hQ => ?_, fun J Q hJ mj hQ => ?_⟩
    · rw [c_isThere c hf, decide_eq_false h0, i1_0]; simp only [Bool.true_eq_false, Bool.false_eq_true, false_implies, true_implies, not_true_eq_false, not_false_eq_true, and_true, true_and]; exact hQ I (FRA.rf I)
    · rw [mj.2, decide_eq_false h0, i1_0]; simp only [Bool.true_eq_false, Bool.false_eq_true, false_implies, true_implies, not_true_eq_false, not_false_eq_true, and_true, true_and]; exact hQ J (FRA.rf J)

/-! ===== the text: law, tellers, papers ===== -/
def f0 : TW := fun q => if 22 ≤ q ∧ q ≤ 28 then -nI 1 else nI 0
def mz (g : TW) : TW := upd g 6 (nI 0)
def kd (x : Int32) : Nat := if x = nI 99 then 1 else if x = nI 107 then 2 else if x = nI 111 then 3 else if x = nI 121 then 4 else if x = nI 110 then 5 else 0
def adT (g : TW) (k d c : Int32) : TW := upd (upd (upd (upd (upd (upd (upd g (29 + tn g) k) (33 + tn g) d) (37 + tn g) c) (41 + tn g) d) (45 + tn g) (nI 0)) 6 (g 6 ||| nI 1 <<< (nI (tn g) &&& 31))) 0 (nI (tn g + 1))
section PARSE
variable (b : Nat → Int32) (z : Nat)
def LAW : Nat × Nat := TK b z 59 (NM b z 1 20 (TK b z 44 (NM b z 0 20 (TK b z 98 (0, 0)))))
def lw1 : Int32 := nV b z (TK b z 98 (0, 0)).1
def lw2 : Int32 := nV b z (TK b z 44 (NM b z 0 20 (TK b z 98 (0, 0)))).1
def kdP (p : Nat) : Nat := if p < z then kd (b p) else 0
def TEL (p : Nat) : Nat × Nat := TK b z 59 (NM b z 1 9 (TK b z 44 (NM b z 0 60 (p + 1, 0))))
def tD (p : Nat) : Int32 := nV b z (p + 1)
def tC (p : Nat) : Int32 := nV b z (TK b z 44 (NM b z 0 60 (p + 1, 0))).1
def PAP (p : Nat) : Nat × Nat := TK b z 59 (NM b z 1 30 (p + 1, 0))
def telR : Nat → Nat → Nat → TW → Nat × Nat × TW
  | 0, _, p, g => (0, p, g)
  | d + 1, n, p, g => if kdP b z p = 0 then (if n = 0 then 1 else 0, p, g) else if n = 4 then (3, p, g) else if (TEL b z p).2 = 0 then telR d (n + 1) (TEL b z p).1 (adT g (nI (kdP b z p)) (tD b z p) (tC b z p)) else ((TEL b z p).2, (TEL b z p).1, g)
def papR : Nat → Nat → Nat → TW → Nat × Nat × TW
  | 0, _, p, g => (0, p, g)
  | d + 1, n, p, g => if z ≤ p then (0, p, g) else if ¬ b p = nI 100 ∧ ¬ b p = nI 112 then (1, p, g) else if n = 7 then (3, p, g) else if (PAP b z p).2 = 0 then papR d (n + 1) (PAP b z p).1 (cT g (nI (if b p = nI 100 then 1 else 0)) (tD b z p) n) else ((PAP b z p).2, (PAP b z p).1, g)
end PARSE
section PARSE2
variable {b : Nat → Int32} {z : Nat} {I : II} {f g : TW}
theorem TK_0 {c : Nat} {s : Nat × Nat} (h : (TK b z c s).2 = 0) : s.2 = 0 := by
  by_cases e : s.2 = 0
  · exact e
  · rw [TK_f e] at h; exact h
theorem NM_0 {lo hi : Nat} {s : Nat × Nat} (h : (NM b z lo hi s).2 = 0) : s.2 = 0 ∧ nE b z lo hi s.1 = 0 := by
  by_cases e : s.2 = 0
  · refine ⟨e, ?_⟩
    unfold NM at h
    rw [if_pos e] at h
    by_cases c : nE b z lo hi s.1 = 0
    · exact c
    · rw [if_neg c] at h; exact h
  · rw [NM_f e] at h; exact absurd h e
theorem num_in {lo hi p : Nat} (hlo : lo < 1000) (hhi : hi < 1000) (h : nE b z lo hi p = 0) : ∃ v, lo ≤ v ∧ v ≤ hi ∧ nV b z p = nI v :=
  inB_of (by omega) (by omega) (nE_fg h).2
def DFR (I J : II) : Prop := ∀ a k, ¬ (8 ≤ a ∧ a < 16) → ¬ (a = 301 ∧ (k = 3 ∨ k = 4)) → J a k = I a k
theorem DFR.rf (I : II) : DFR I I := fun _ _ _ _ => rfl
theorem DFR.tr {I J K : II} (h : DFR I J) (k : DFR J K) : DFR I K := fun a s h1 h2 => (k a s h1 h2).trans (h a s h1 h2)
theorem DFR.out {I J : II} {p e : Nat} (h : OUT 1 (tp I p e) J) : DFR I J := fun a k h1 h2 => by rw [h a (by omega), tp_o h2]
theorem CT.fr {I J : II} (h : CT I b z) (d : DFR I J) : CT J b z := ⟨h.1, by rw [d _ _ (by omega) (by omega)]; exact h.2.1, fun i hi => by rw [d _ _ (by omega) (by omega)]; exact h.2.2 i hi⟩
theorem tp_self {J : II} {p e : Nat} (h3 : J 301 3 = nI p) (h4 : J 301 4 = nI e) : tp J p e = J := by
  funext a k
  unfold tp
  by_cases c : a = 301 ∧ k = 3
  · rw [if_pos c, c.1, c.2, h3]
  · rw [if_neg c]
    by_cases c2 : a = 301 ∧ k = 4
    · rw [if_pos c2, c2.1, c2.2, h4]
    · rw [if_neg c2]
theorem out_tp {J : II} {p e : Nat} (h : OUT 1 (tp I p e) J) : tp J p e = J := tp_self (by rw [h 301 (by omega), tp_3]) (by rw [h 301 (by omega), tp_4])
theorem tp_bk {s : Prop} {p e : Nat} (h : BK s I 1 g) : BK s (tp I p e) 1 g := h.fr (fun a _ _ => tp_c (by omega))
theorem c_law (h : CT I b z) (Q : II → Prop) (hq : ∀ v1 v2, ((LAW b z).2 = 0 → v1 = lw1 b z ∧ v2 = lw2 b z) → Q (tp (su (su I (8 * 1) 0 v1) (8 * 1) 1 v2) (LAW b z).1 (LAW b z).2)) : wp_X6_readLaw (tp I 0 0) Q := by
  unfold wp_X6_readLaw
  have a1 : (TK b z 98 (0, 0)).1 ≤ z := TK_le (Nat.zero_le _)
  have b1 : (TK b z 98 (0, 0)).2 ≤ 2 := TK_e (Nat.zero_le _)
  have a2 := NM_le (b := b) (lo := 0) (hi := 20) a1
  have b2 := NM_e (z := z) (b := b) (lo := 0) (hi := 20) b1
  have a3 := TK_le (b := b) (c := 44) a2
  have b3 := TK_e (z := z) (b := b) (c := 44) b2
  have a4 := NM_le (b := b) (lo := 1) (hi := 20) a3
  have b4 := NM_e (z := z) (b := b) (lo := 1) (hi := 20) b3
  refine c_takeByte (s := (0, 0)) h (Nat.zero_le _) (Nat.zero_le _) (by omega) _ ?_
  refine c_takeNumber h a1 (by omega) (by omega) (by omega) _ (fun v1 hv1 => ?_)
  simp only [forall_eq]
  rw [tp_su (by omega)]
  have h1 : CT (su I (8 * 1) 0 v1) b z := h.fr (fun a k c1 c2 => su2 (by omega))
  refine c_takeByte h1 a2 (by omega) (by omega) _ ?_
  refine c_takeNumber h1 a3 (by omega) (by omega) (by omega) _ (fun v2 hv2 => ?_)
  rw [tp_su (by omega)]
  have h2 : CT (su (su I (8 * 1) 0 v1) (8 * 1) 1 v2) b z := h1.fr (fun a k c1 c2 => su2 (by omega))
  refine c_takeByte h2 a4 (by omega) (by omega) _ (hq v1 v2 (fun e => ?_))
  have e4 := TK_0 e
  obtain ⟨e3, n2⟩ := NM_0 e4
  obtain ⟨e1, n1⟩ := NM_0 (TK_0 e3)
  exact ⟨hv1 e1 n1, hv2 e3 n2⟩
theorem TM.pT {b : Nat → Int32} {z : Nat} {I : II} (h : TM I b z) (f : TW) : TM (pT I 1323 f) b z := ⟨h.1, by rw [pT_oth (by omega)]; exact h.2.1, fun i hi => by rw [pT_oth (by omega)]; exact h.2.2 i hi⟩
theorem m_law {w n : Int32} (h : TM I b z) (Q : Int32 → II → Prop) (h1 : (LAW b z).2 = 0 → ∀ n', Q (nI 1) (mq (pT I 1323 (upd (upd f 1 (lw1 b z)) 2 (lw2 b z))) (LAW b z).1 w n')) (h2 : ¬ (LAW b z).2 = 0 → ∀ f' n', Q (nI 0) (mq (pT I 1323 f') (LAW b z).1 (nI (LAW b z).2) n')) : wp_X8_readsLaw (mq (pT I 1323 f) 0 w n) Q := by
  unfold wp_X8_readsLaw
  have a1 : (TK b z 98 (0, 0)).1 ≤ z := TK_le (Nat.zero_le _)
  have a2 := NM_le (b := b) (lo := 0) (hi := 20) a1
  have a3 := TK_le (b := b) (c := 44) a2
  have a4 := NM_le (b := b) (lo := 1) (hi := 20) a3
  have n1 : ¬ (nI 1 : Int32) = 0 := by decide
  have n0 : (nI 0 : Int32) = 0 := rfl
  have g24 : 1324 < 1372 := by omega
  have g25 : 1325 < 1372 := by omega
  refine m_sign (s := (0, 0)) (h.pT f) (Nat.zero_le _) rfl _ (fun e => ?_) (fun e => ?_)
  · refine ⟨fun q => absurd q n1, fun _ => ?_⟩
    refine m_number (h.pT f) a1 e (by omega) (by omega) _ (fun e2 => ?_) (fun n' e2 => ?_)
    · have ex : ∀ v, su (pT I 1323 f) 316 1324 v = pT I 1323 (upd f 1 v) := fun v => by rw [show 1324 = 1323 + 1 by omega, pT_set (by omega)]
      simp (disch := omega) only [n1, Bool.true_eq_false, Bool.false_eq_true, false_implies, true_implies, not_true_eq_false, not_false_eq_true, and_true, true_and, nIvp, nIcl, g24, forall_eq, mq_n, mq_su, ex]
      refine m_sign (h.pT _) a2 e2 _ (fun e3 => ?_) (fun e3 => ?_)
      · refine ⟨fun q => absurd q n1, fun _ => ?_⟩
        refine m_number (h.pT _) a3 e3 (by omega) (by omega) _ (fun e4 => ?_) (fun n' e4 => ?_)
        · have ex2 : ∀ (f : TW) v, su (pT I 1323 f) 316 1325 v = pT I 1323 (upd f 2 v) := fun f v => by rw [show 1325 = 1323 + 2 by omega, pT_set (by omega)]
          simp (disch := omega) only [n1, Bool.true_eq_false, Bool.false_eq_true, false_implies, true_implies, not_true_eq_false, not_false_eq_true, and_true, true_and, nIvp, nIcl, g25, forall_eq, mq_n, mq_su, ex2]
          refine m_sign (h.pT _) a4 e4 _ (fun e5 => ⟨Or.inr rfl, h1 e5 _⟩) (fun e5 => ⟨Or.inl rfl, h2 e5 _ _⟩)
        · have e5 : LAW b z = NM b z 1 20 (TK b z 44 (NM b z 0 20 (TK b z 98 (0, 0)))) := TK_f e4
          rw [e5] at h2
          exact ⟨fun q => absurd n0 q, fun _ => h2 e4 _ _⟩
      · have e5 : LAW b z = TK b z 44 (NM b z 0 20 (TK b z 98 (0, 0))) := by unfold LAW; rw [NM_f e3, TK_f e3]
        rw [e5] at h2
        exact ⟨fun _ => h2 e3 _ _, fun q => absurd n0 q⟩
    · have e5 : LAW b z = NM b z 0 20 (TK b z 98 (0, 0)) := by unfold LAW; rw [TK_f e2, NM_f e2, TK_f e2]
      rw [e5] at h2
      exact ⟨fun q => absurd n0 q, fun _ => h2 e2 _ _⟩
  · have e5 : LAW b z = TK b z 98 (0, 0) := by unfold LAW; rw [NM_f e, TK_f e, NM_f e, TK_f e]
    rw [e5] at h2
    exact ⟨fun _ => h2 e _ _, fun q => absurd n0 q⟩
theorem kd_le (x : Int32) : kd x ≤ 5 := by
  unfold kd
  split
  · omega
  · split
    · omega
    · split
      · omega
      · split
        · omega
        · split <;> omega
theorem c_kind {p e : Nat} (h : CT I b z) (hp : p ≤ z) (Q : Int32 → II → Prop) (hq : Q (if kdP b z p = 0 then (-nI 1000000) else nI (kdP b z p)) (tp I p e)) : wp_X6_next (tp I p e) (fun r4 I3 => wp_X6_kindOfSort r4 I3 Q) := by
  refine c_next h hp _ ?_
  unfold wp_X6_kindOfSort
  have key : ∀ x : Int32, Q (if kd x = 0 then (-nI 1000000) else nI (kd x)) (tp I p e) → ((x = nI 99 → Q (nI 1) (tp I p e)) ∧ (x = nI 107 → Q (nI 2) (tp I p e)) ∧ (x = nI 110 → Q (nI 5) (tp I p e)) ∧ (x = nI 111 → Q (nI 3) (tp I p e)) ∧ (x = nI 121 → Q (nI 4) (tp I p e)) ∧ (¬ x = nI 99 → ¬ x = nI 107 → ¬ x = nI 110 → ¬ x = nI 111 → ¬ x = nI 121 → Q (-nI 1000000) (tp I p e))) := by
    intro x hx
    refine ⟨fun q => ?_, fun q => ?_, fun q => ?_, fun q => ?_, fun q => ?_, fun q1 q2 q3 q4 q5 => ?_⟩
    · subst q; exact hx
    · subst q; exact hx
    · subst q; exact hx
    · subst q; exact hx
    · subst q; exact hx
    · have : kd x = 0 := by unfold kd; rw [if_neg q1, if_neg q2, if_neg q4, if_neg q5, if_neg q3]
      rw [this, if_pos rfl] at hx; exact hx
  unfold kdP at hq
  unfold by_
  by_cases c : p < z
  · rw [if_pos c] at hq ⊢; exact key _ hq
  · rw [if_neg c] at hq ⊢
    exact key _ (by have : kd (-nI 1000000) = 0 := by decide
                    rw [this]; exact hq)
theorem c_addTeller {k d c : Int32} {Q : II → Prop} (h : BK True I 1 g) (hg : WF g) (hn : tn g < 4) (hq : ∀ J, BK True J 1 (adT g k d c) → OUT 1 I J → Q J) : wp_X1_addTeller 1 k d c I Q := by
  have nn := hg.n
  have w7 := hg.w.2
  unfold wp_X1_addTeller
  have e2 : I (8 * 1) 2 = nI (tn g) := by rw [h.1.2.2.1, nn.1]
  have e3 : I (8 * 1) 3 = g 6 := h.1.2.2.2.1
  have cc : ∀ (J : II) (a k : Nat) (v : Int32), a ≠ 8 * 1 → su J a k v (8 * 1) = J (8 * 1) := fun J a k v ha => su_cell (fun q => ha q.symm)
  simp (disch := omega) only [cc, e2, nIlt, hn, Bool.true_eq_false, Bool.false_eq_true, false_implies, true_implies, not_true_eq_false, not_false_eq_true, and_true, true_and, nIvp, nIcl, forall_eq, e3]
  have e2' : ∀ v : Int32, su (su (su (su (su (su I (8 * 1 + 1) (tn g) k) (8 * 1 + 2) (tn g) d) (8 * 1 + 3) (tn g) c) (8 * 1 + 4) (tn g) d) (8 * 1 + 5) (tn g) (nI 0)) (8 * 1) 3 v (8 * 1) 2 = nI (tn g) := fun v => by
    rw [su_slot (by omega), su_cell (by omega), su_cell (by omega), su_cell (by omega), su_cell (by omega), su_cell (by omega)]; exact e2
  rw [e2', nI_add]
  generalize hm : g 6 ||| nI 1 <<< (nI (tn g) &&& 31) = m
  have en : tn (adT g k d c) = tn g + 1 := by rw [tn, adT, upd_eq, nI_clamp (by omega)]
  have at_ : ∀ q, adT g k d c q = if q = 0 then nI (tn g + 1) else if q = 6 then m else if q = 45 + tn g then nI 0 else if q = 41 + tn g then d else if q = 37 + tn g then c else if q = 33 + tn g then d else if q = 29 + tn g then k else g q := fun q => by
    rw [← hm]; simp only [adT, upd]
  have ot : ∀ q, q ≠ 0 → q ≠ 6 → q < 29 → adT g k d c q = g q := fun q h1 h2 h3 => by
    rw [at_, if_neg h1, if_neg h2, if_neg (by omega), if_neg (by omega), if_neg (by omega), if_neg (by omega), if_neg (by omega)]
  have ew : tw (adT g k d c) = tw g := by rw [tw, ot 7 (by omega) (by omega) (by omega)]; rfl
  refine hq _ ⟨⟨?_, ?_, ?_, ?_, ?_, ?_, ?_, ?_⟩, fun t ht => ?_, fun q hq => ?_, fun p hp => ?_, fun p hp hk => ?_⟩ (((((((OUT.rf 1 I).su (by omega)).su (by omega)).su (by omega)).su (by omega)).su (by omega)).su (by omega) |>.su (by omega))
  · rw [su_slot (by omega), su_slot (by omega), su_cell (by omega), su_cell (by omega), su_cell (by omega), su_cell (by omega), su_cell (by omega), ot 1 (by omega) (by omega) (by omega)]; exact h.1.1
  · rw [su_slot (by omega), su_slot (by omega), su_cell (by omega), su_cell (by omega), su_cell (by omega), su_cell (by omega), su_cell (by omega), ot 2 (by omega) (by omega) (by omega)]; exact h.1.2.1
  · rw [su_eq, at_, if_pos rfl]
  · rw [su_slot (by omega), su_eq, at_, if_neg (by omega), if_pos rfl]
  · rw [su_slot (by omega), su_slot (by omega), su_cell (by omega), su_cell (by omega), su_cell (by omega), su_cell (by omega), su_cell (by omega), ot 3 (by omega) (by omega) (by omega)]; exact h.1.2.2.2.2.1
  · rw [su_slot (by omega), su_slot (by omega), su_cell (by omega), su_cell (by omega), su_cell (by omega), su_cell (by omega), su_cell (by omega), ot 4 (by omega) (by omega) (by omega)]; exact h.1.2.2.2.2.2.1
  · rw [su_slot (by omega), su_slot (by omega), su_cell (by omega), su_cell (by omega), su_cell (by omega), su_cell (by omega), su_cell (by omega), ot 5 (by omega) (by omega) (by omega)]; exact h.1.2.2.2.2.2.2.1
  · rw [su_slot (by omega), su_slot (by omega), su_cell (by omega), su_cell (by omega), su_cell (by omega), su_cell (by omega), su_cell (by omega), ot 7 (by omega) (by omega) (by omega)]; exact h.1.2.2.2.2.2.2.2
  · rw [en] at ht
    rw [su_cell (by omega), su_cell (by omega), su_cell (by omega), su_cell (by omega), su_cell (by omega), su_cell (by omega), su_cell (a' := 8 * 1 + 2) (by omega), su_cell (a' := 8 * 1 + 2) (by omega), su_cell (a' := 8 * 1 + 2) (by omega), su_cell (a' := 8 * 1 + 2) (by omega), su_cell (a' := 8 * 1 + 2) (by omega), su_cell (a' := 8 * 1 + 3) (by omega), su_cell (a' := 8 * 1 + 3) (by omega), su_cell (a' := 8 * 1 + 3) (by omega), su_cell (a' := 8 * 1 + 3) (by omega), su_cell (a' := 8 * 1 + 4) (by omega), su_cell (a' := 8 * 1 + 4) (by omega), su_cell (a' := 8 * 1 + 4) (by omega), su_cell (a' := 8 * 1 + 5) (by omega), su_cell (a' := 8 * 1 + 5) (by omega)]
    by_cases e : t = tn g
    · subst e
      rw [su_eq, su_eq, su_eq, su_eq, su_eq, at_, at_, at_, at_, at_]
      refine ⟨?_, ?_, ?_, ?_, fun _ => ?_⟩
      · rw [if_neg (by omega), if_neg (by omega), if_neg (by omega), if_neg (by omega), if_neg (by omega), if_neg (by omega), if_pos rfl]
      · rw [if_neg (by omega), if_neg (by omega), if_neg (by omega), if_neg (by omega), if_neg (by omega), if_pos rfl]
      · rw [if_neg (by omega), if_neg (by omega), if_neg (by omega), if_neg (by omega), if_pos rfl]
      · rw [if_neg (by omega), if_neg (by omega), if_neg (by omega), if_pos rfl]
      · rw [if_neg (by omega), if_neg (by omega), if_pos rfl]
    · have oo : ∀ q, 29 ≤ q → q ≠ 29 + tn g → q ≠ 33 + tn g → q ≠ 37 + tn g → q ≠ 41 + tn g → q ≠ 45 + tn g → adT g k d c q = g q := fun q h0 h1 h2 h3 h4 h5 => by
        rw [at_, if_neg (by omega), if_neg (by omega), if_neg h5, if_neg h4, if_neg h3, if_neg h2, if_neg h1]
      rw [su_slot e, su_slot e, su_slot e, su_slot e, su_slot e, su_cell (by omega), su_cell (by omega), su_cell (by omega), su_cell (by omega), su_cell (by omega), su_cell (by omega), su_cell (by omega), su_cell (by omega), su_cell (by omega), su_cell (by omega), oo _ (by omega) (by omega) (by omega) (by omega) (by omega) (by omega), oo _ (by omega) (by omega) (by omega) (by omega) (by omega) (by omega), oo _ (by omega) (by omega) (by omega) (by omega) (by omega) (by omega), oo _ (by omega) (by omega) (by omega) (by omega) (by omega) (by omega), oo _ (by omega) (by omega) (by omega) (by omega) (by omega) (by omega)]
      exact h.2.1 t (by omega)
  · rw [ew] at hq
    rw [su_cell (by omega), su_cell (by omega), su_cell (by omega), su_cell (by omega), su_cell (by omega), su_cell (by omega), su_cell (by omega), ot _ (by omega) (by omega) (by omega)]
    exact h.2.2.1 q hq
  · rw [su_slot (by omega), su_slot (by omega), su_cell (by omega), su_cell (by omega), su_cell (by omega), su_cell (by omega), su_cell (by omega), ot _ (by omega) (by omega) (by omega)]
    exact h.2.2.2.1 p hp
  · rw [ot _ (by omega) (by omega) (by omega)] at hk
    rw [su_slot (by omega), su_slot (by omega), su_cell (by omega), su_cell (by omega), su_cell (by omega), su_cell (by omega), su_cell (by omega), su_cell (a' := 8 * 1 + 6) (by omega), su_cell (a' := 8 * 1 + 6) (by omega), su_cell (a' := 8 * 1 + 6) (by omega), su_cell (a' := 8 * 1 + 6) (by omega), su_cell (a' := 8 * 1 + 6) (by omega), su_cell (a' := 8 * 1 + 6) (by omega), su_cell (a' := 8 * 1 + 6) (by omega), ot _ (by omega) (by omega) (by omega), ot _ (by omega) (by omega) (by omega)]
    exact h.2.2.2.2 p hp hk
end PARSE2

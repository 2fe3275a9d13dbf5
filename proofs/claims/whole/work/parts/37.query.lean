/-! ===== pure: calls that change nothing ===== -/
def FRA (I J : II) : Prop := ∀ a k, ¬ scr a k → J a k = I a k
theorem FRA.rf (I : II) : FRA I I := fun _ _ _ => rfl
theorem FRA.tr {I J K : II} (h : FRA I J) (g : FRA J K) : FRA I K := fun a k z => (g a k z).trans (h a k z)
theorem FRA.out {I J : II} {j : Nat} (hj : j = 1 ∨ j = 2 ∨ (29 ≤ j ∧ j < 37)) (h : OUT j I J) : FRA I J := fun a k z => by
  rw [h a (by unfold scr at z; omega)]
theorem FRA.pT (I : II) (g : TW) : FRA I (pT I 1323 g) := fun a k z => by
  by_cases e : a = 316
  · subst e; rw [pT_row (by unfold scr at z; omega)]
  · rw [pT_oth e]
def TNW (J : II) (f : TW) : Prop := (∀ q, q < 49 → J 316 q = f q) ∧ J 315 1 = i1 (decide (0 < tn f))
theorem TNW.fr {I J : II} {f : TW} (h : TNW I f) (e : FRA I J) : TNW J f := ⟨fun q hq => by rw [e _ _ (by unfold scr; omega)]; exact h.1 q hq, by rw [e _ _ (by unfold scr; omega)]; exact h.2⟩
theorem TNW.pT {I : II} {f : TW} (h : TNW I f) (g : TW) : TNW (pT I 1323 g) f := h.fr (FRA.pT I g)
theorem SIM.qr {A B : II → (Int32 → II → Prop) → Prop} (h : ∀ I f, INV I → WF f → (tn f = 0 → tw f = 0) → BK True I 0 f → TNW I f → ∃ R, (∀ Q, (∀ J, FRA I J → Q R J) → A I Q) ∧ ∀ J Q, FRA I J → TNW J f → (∀ K, FRA J K → Q R K) → B J Q) : SIM A B := by
  intro I v
  obtain ⟨f, sz, lt, hh, p, c, m⟩ := v.ok
  have tw := TNW.fr (J := I) (f := f) ⟨m.1, m.2.2.1⟩ (FRA.rf I)
  obtain ⟨R, h1, h2⟩ := h I f v p.1 p.2.1 c.1 tw
  refine h1 _ (fun J hJ => h2 J _ hJ (tw.fr hJ) (fun K hK => ⟨rfl, v.fr (hJ.tr hK)⟩))
section QUERY
variable {s : Prop} {I : II} {f : TW}
theorem c_af_loop {Q k : II → Prop} {n j : Nat} (hf : WF f) (h0 : 0 < tn f) (hn : n < 2147483648) (hk : ∀ J, BK s J 2 (itF f n) → OUT 2 I J → k J) : ∀ (d t : Nat) (J : II), t + d = n → BK s J 2 (itF f t) → OUT 2 I J → wp_X2_after_10 j Q k (d + 1) (nI n) (nI t) J := by
  intro d
  induction d with
  | zero =>
    intro t J ht hb ho
    rw [wp_X2_after_10.eq_2]
    have e : t = n := by omega
    subst e
    simp (disch := omega) only [nIle, Nat.le_refl, Bool.true_eq_false, Bool.false_eq_true, false_implies, true_implies, not_true_eq_false, not_false_eq_true, and_true, true_and]
    exact hk J hb ho
  | succ d ih =>
    intro t J ht hb ho
    have c : ¬ n ≤ t := by omega
    rw [wp_X2_after_10.eq_2]
    simp (disch := omega) only [nIle, c, Bool.true_eq_false, Bool.false_eq_true, false_implies, true_implies, not_true_eq_false, not_false_eq_true, and_true, true_and]
    refine c_passTurn hb (itF_wf hf t) (by rw [itF_n hf]; exact h0) (fun K kb ko => ?_)
    rw [nI_add]
    exact ih (t + 1) K (by omega) kb (ho.tr ko)
theorem c_after {Q : II → Prop} {n : Nat} (h : BK s I 0 f) (hf : WF f) (h0 : 0 < tn f) (hn : n < 2147483648) (hq : ∀ J, BK s J 2 (itF f n) → OUT 2 I J → Q J) : wp_X2_after 0 (nI n) I Q := by
  unfold wp_X2_after
  exact c_takeAll (by omega) (fun J hJ => ⟨n + 1, c_af_loop (k := fun I => Q I) (s := s) hf h0 hn hq n 0 J (by omega) (hJ.bk h hf.n.2 hf.w.2) hJ.2.2.2⟩)
/-- how many are paid ahead of the first who isn't -/
def paN (f : TW) : Nat → Nat → Nat
  | 0, t => t
  | d + 1, t => if passR (itF f t) = (-nI 1000000) then t else paN f d (t + 1)
theorem paN_le (f : TW) : ∀ d t, t ≤ paN f d t ∧ paN f d t ≤ t + d := by
  intro d
  induction d with
  | zero => intro t; exact ⟨Nat.le_refl _, Nat.le_refl _⟩
  | succ d ih =>
    intro t
    rw [paN]
    split
    · omega
    · have := ih (t + 1); omega
theorem c_gp_loop {Q : Int32 → II → Prop} {k27 k35 : Int32 → II → Prop} {n r : Nat} (hf : WF f) (h0 : 0 < tn f) (hn : n < 2147483648) (h1 : ∀ J, OUT 2 I J → k27 (nI r) J) (h2 : ∀ J, OUT 2 I J → k35 (nI r) J) : ∀ (d t : Nat) (J : II), t + d = n → paN f d t = r → BK s J 2 (itF f t) → OUT 2 I J → wp_X2_ghostPaidAhead_10 Q k27 k35 (d + 1) (nI n) (nI t) J := by
  intro d
  induction d with
  | zero =>
    intro t J ht hr hb ho
    rw [wp_X2_ghostPaidAhead_10.eq_2]
    have e : t = n := by omega
    subst e
    simp (disch := omega) only [nIle, Nat.le_refl, Bool.true_eq_false, Bool.false_eq_true, false_implies, true_implies, not_true_eq_false, not_false_eq_true, and_true, true_and]
    rw [paN] at hr
    subst hr
    exact h2 J ho
  | succ d ih =>
    intro t J ht hr hb ho
    have c : ¬ n ≤ t := by omega
    rw [wp_X2_ghostPaidAhead_10.eq_2]
    simp (disch := omega) only [nIle, c, Bool.true_eq_false, Bool.false_eq_true, false_implies, true_implies, not_true_eq_false, not_false_eq_true, and_true, true_and]
    refine c_passTurn hb (itF_wf hf t) (by rw [itF_n hf]; exact h0) (fun K kb ko => ?_)
    rw [paN] at hr
    refine ⟨fun e => ?_, fun e => ?_⟩
    · rw [if_neg e] at hr
      rw [nI_add]
      exact ih (t + 1) K (by omega) hr kb (ho.tr ko)
    · rw [if_pos e] at hr
      subst hr
      exact h1 K (ho.tr ko)
theorem c_ghostPaid {Q : Int32 → II → Prop} (h : BK s I 2 f) (hf : WF f) (h0 : 0 < tn f) (hq : ∀ J, OUT 2 I J → Q (nI (paN f (tw f) 0)) J) : wp_X2_ghostPaidAhead I Q := by
  have hw := hf.w
  unfold wp_X2_ghostPaidAhead
  rw [h.1.2.2.2.2.2.2.2, hw.1]
  exact ⟨_, c_gp_loop (s := s) hf h0 (by omega) hq hq (tw f) 0 I (by omega) rfl h (OUT.rf 2 I)⟩
theorem m_hd_loop {Q : Int32 → II → Prop} {k : Int32 → II → Prop} {r : Nat} (hf : WF f) (hI : TNW I f) (hk : ∀ K, FRA I K → k (nI r) K) : ∀ (d t : Nat), t + d = tw f → paN f d t = r → wp_X8_holds_17 Q k (d + 1) (nI t) (pT I 1323 (itF f t)) := by
  have hw := hf.w
  have e7 : ∀ g, pT I 1323 g 316 7 = nI (tw f) := fun g => by rw [(hI.pT g).1 7 (by omega), hw.1]
  have g7 : 7 < 1372 := by omega
  intro d
  induction d with
  | zero =>
    intro t ht hr
    rw [wp_X8_holds_17.eq_2]
    have c : tw f ≤ t := by omega
    simp (disch := omega) only [nIvp, nIcl, g7, e7, nIle, c, Bool.true_eq_false, Bool.false_eq_true, false_implies, true_implies, not_true_eq_false, not_false_eq_true, and_true, true_and]
    rw [paN] at hr
    subst hr
    exact hk _ (FRA.pT _ _)
  | succ d ih =>
    intro t ht hr
    rw [wp_X8_holds_17.eq_2]
    have c : ¬ tw f ≤ t := by omega
    simp (disch := omega) only [nIvp, nIcl, g7, e7, nIle, c, Bool.true_eq_false, Bool.false_eq_true, false_implies, true_implies, not_true_eq_false, not_false_eq_true, and_true, true_and]
    refine m_pass (by omega) (itF_wf hf t) ?_
    rw [paN] at hr
    refine ⟨fun e => ?_, fun e => ?_⟩
    · rw [if_pos e] at hr
      subst hr
      exact hk _ (FRA.pT _ _)
    · rw [if_neg e] at hr
      rw [nI_add]
      exact ih (t + 1) (by omega) hr
/-- the first teller who has but infancy left -/
def fwD (f : TW) : Nat → Nat → Int32
  | 0, _ => (-nI 1000000)
  | d + 1, t => if f 1 < f (41 + t) then fwD f d (t + 1) else nI t
theorem fwD_no {f : TW} : ∀ d t, t + d < 2147483648 → fwD f d t = (-nI 1000000) ∨ ∃ b, b < t + d ∧ fwD f d t = nI b := by
  intro d
  induction d with
  | zero => intro t _; exact Or.inl rfl
  | succ d ih =>
    intro t ht
    rw [fwD]
    split
    · rcases ih (t + 1) (by omega) with e | ⟨b, h1, h2⟩
      · exact Or.inl e
      · exact Or.inr ⟨b, by omega, h2⟩
    · exact Or.inr ⟨t, by omega, rfl⟩
theorem c_fw_loop {j : Nat} {Q : Int32 → II → Prop} {k28 : Int32 → II → Prop} {k36 : II → Prop} {r : Int32} (h : BK s I j f) (hf : WF f) (h1 : r ≠ (-nI 1000000) → k28 r I) (h2 : r = (-nI 1000000) → k36 I) : ∀ (d t : Nat), t + d = tn f → fwD f d t = r → ∃ N, wp_X1_firstWithInfancy_2 j Q k28 k36 N (nI t) I := by
  have hn := hf.n
  intro d
  induction d with
  | zero =>
    intro t ht hr
    refine ⟨1, ?_⟩
    rw [wp_X1_firstWithInfancy_2.eq_2]
    have c : tn f ≤ t := by omega
    rw [fwD] at hr
    simp (disch := omega) only [h.1.2.2.1, hn.1, nIle, c, Bool.true_eq_false, Bool.false_eq_true, false_implies, true_implies, not_true_eq_false, not_false_eq_true, and_true, true_and]
    exact h2 hr.symm
  | succ d ih =>
    intro t ht hr
    have c : ¬ tn f ≤ t := by omega
    have c4 : ¬ 4 ≤ t := by omega
    have c5 : t < 4 := by omega
    have e4 := (h.2.1 t (by omega)).2.2.2.1
    rw [fwD] at hr
    by_cases e : f 1 < f (41 + t)
    · rw [if_pos e] at hr
      obtain ⟨N, hN⟩ := ih (t + 1) (by omega) hr
      refine ⟨N + 1, ?_⟩
      rw [wp_X1_firstWithInfancy_2.eq_2]
      simp (disch := omega) only [h.1.2.2.1, hn.1, nIle, c, c4, c5, Bool.true_eq_false, Bool.false_eq_true, false_implies, true_implies, not_true_eq_false, not_false_eq_true, and_true, true_and, nIvp, nIcl, e4, h.1.1, e, nI_add]
      exact hN
    · rw [if_neg e] at hr
      refine ⟨1, ?_⟩
      rw [wp_X1_firstWithInfancy_2.eq_2]
      simp (disch := omega) only [h.1.2.2.1, hn.1, nIle, c, c4, c5, Bool.true_eq_false, Bool.false_eq_true, false_implies, true_implies, not_true_eq_false, not_false_eq_true, and_true, true_and, nIvp, nIcl, e4, h.1.1, e]
      have hne : r ≠ (-nI 1000000) := by rw [← hr, ne_eq, nIneg (by omega) (by omega) (by omega)]; exact not_false
      rw [hr]
      exact h1 hne
theorem c_firstWith {j : Nat} {Q : Int32 → II → Prop} (h : BK s I j f) (hf : WF f) (hq : Q (fwD f (tn f) 0) I) : wp_X1_firstWithInfancy j I Q :=
  c_fw_loop (k28 := fun x1 I => Q x1 I) (k36 := fun I => Q (-nI 1000000) I) (r := fwD f (tn f) 0) h hf (fun _ => hq) (fun e => by rw [e] at hq; exact hq) (tn f) 0 (by omega) rfl
def inD (f : TW) : Nat → Nat → Int32
  | 0, t => fwD (itF f t) (tn f) 0
  | d + 1, t => if fwD (itF f t) (tn f) 0 = (-nI 1000000) then inD f d (t + 1) else fwD (itF f t) (tn f) 0
theorem c_fi_loop {Q : Int32 → II → Prop} {k : II → Prop} {r : Int32} (hf : WF f) (h0 : 0 < tn f) (e7 : I (8 * 0) 7 = nI (tw f)) (hk : ∀ J t, BK s J 2 (itF f t) → OUT 2 I J → fwD (itF f t) (tn f) 0 = r → k J) : ∀ (d t : Nat) (J : II), t + d = tw f → inD f d t = r → BK s J 2 (itF f t) → OUT 2 I J → wp_X2_firstInfant_10 0 Q k (d + 1) (nI t) J := by
  have hw := hf.w
  intro d
  induction d with
  | zero =>
    intro t J ht hr hb ho
    rw [wp_X2_firstInfant_10.eq_2]
    have c : tw f ≤ t := by omega
    rw [ho (8 * 0) (by omega), e7]
    simp (disch := omega) only [nIle, c, Bool.true_eq_false, Bool.false_eq_true, false_implies, true_implies, not_true_eq_false, not_false_eq_true, and_true, true_and]
    rw [inD] at hr
    exact hk J t hb ho hr
  | succ d ih =>
    intro t J ht hr hb ho
    rw [wp_X2_firstInfant_10.eq_2]
    have c : ¬ tw f ≤ t := by omega
    rw [ho (8 * 0) (by omega), e7]
    simp (disch := omega) only [nIle, c, Bool.true_eq_false, Bool.false_eq_true, false_implies, true_implies, not_true_eq_false, not_false_eq_true, and_true, true_and]
    refine c_firstWith hb (itF_wf hf t) ?_
    rw [itF_n hf]
    rw [inD] at hr
    refine ⟨fun e => ?_, fun e => ?_⟩
    · rw [if_neg e] at hr
      exact hk J t hb ho hr
    · rw [if_pos e] at hr
      refine c_passTurn hb (itF_wf hf t) (by rw [itF_n hf]; exact h0) (fun K kb ko => ?_)
      rw [nI_add]
      exact ih (t + 1) K (by omega) hr kb (ho.tr ko)
theorem c_firstInfant {Q : Int32 → II → Prop} (h : BK s I 0 f) (hf : WF f) (h0 : 0 < tn f) (hq : ∀ J, OUT 2 I J → Q (inD f (tw f) 0) J) : wp_X2_firstInfant 0 I Q := by
  unfold wp_X2_firstInfant
  refine c_takeAll (by omega) (fun J hJ => ⟨tw f + 1, ?_⟩)
  refine c_fi_loop (k := fun I => wp_X2_firstInfant_44 0 Q I) (I := J) (s := s) (r := inD f (tw f) 0) hf h0 ?_ (fun K t kb ko hr => ?_) (tw f) 0 J (by omega) rfl (hJ.bk h hf.n.2 hf.w.2) (OUT.rf 2 J)
  · rw [hJ.2.2.2 (8 * 0) (by omega), h.1.2.2.2.2.2.2.2, hf.w.1]
  · unfold wp_X2_firstInfant_44
    refine c_firstWith kb (itF_wf hf t) ?_
    rw [itF_n hf, hr]
    exact hq K (hJ.2.2.2.tr ko)
theorem passF_oth (hf : WF f) {q : Nat} (h1 : q ≠ 3 ∧ q ≠ 4 ∧ q ≠ 5) (h2 : q < 7 ∨ (15 ≤ q ∧ q < 41)) : passF f q = f q := by
  have n4 := hf.n.2
  rw [passF]
  have en : tn (if tw f = 0 then f else leaveT (serveT f (tq f 0)) (tw f)) = tn f := by
    split
    · rfl
    · rw [tn, leaveT, upd_ne (by omega), mvT_oth _ _ 0 (by omega), serveT]
      split
      · rw [upd_ne (by omega)]; rfl
      · rw [takeT, upd_ne (by omega), upd_ne (by omega), upd_ne (by omega)]; rfl
  rw [finT_oth _ (by rw [en]; exact n4) h1.1 (by omega)]
  split
  · rfl
  · have w7 := hf.w.2
    rw [leaveT, upd_ne (by omega), mvT_oth _ _ q (by omega), serveT]
    rcases wT_in f (tq f 0) (tn f) with e | ⟨t, ht, e⟩
    · rw [if_pos e, upd_ne (by omega)]
    · have eN : ¬ wT f (tq f 0) (tn f) = (-nI 1000000) := by rw [e, nIneg (by omega) (by omega) (by omega)]; exact not_false
      rw [if_neg eN, e, nIcl (by omega), takeT, upd_ne (by omega), upd_ne (by omega), upd_ne (by omega)]
theorem itF_oth (hf : WF f) {q : Nat} (h1 : q ≠ 3 ∧ q ≠ 4 ∧ q ≠ 5) (h2 : q < 7 ∨ (15 ≤ q ∧ q < 41)) : ∀ n, itF f n q = f q := by
  intro n
  induction n with
  | zero => rfl
  | succ n ih => rw [itF, passF_oth (itF_wf hf n) h1 h2, ih]
theorem m_if_loop {Q : Int32 → II → Prop} {k59 k67 : Int32 → II → Prop} {g : TW} {r x : Int32} (hf : WF f) (hI : TNW I f) (e1 : g 1 = f 1) (h1 : r ≠ (-nI 1000000) → k59 r (pT I 1323 g)) (h2 : r = (-nI 1000000) → k67 x (pT I 1323 g)) : ∀ (d t : Nat), t + d = tn f → fwD g d t = r → ∃ N, wp_X8_infant_30 Q k59 k67 N x (nI t) (pT I 1323 g) := by
  have hn := hf.n
  have e0 : pT I 1323 g 316 0 = nI (tn f) := by rw [(hI.pT g).1 0 (by omega), hn.1]
  have ei : pT I 1323 g 316 1 = g 1 := by rw [(hI.pT g).1 1 (by omega), e1]
  have g0 : 0 < 1372 := by omega
  have g1 : 1 < 1372 := by omega
  intro d
  induction d with
  | zero =>
    intro t ht hr
    refine ⟨1, ?_⟩
    rw [wp_X8_infant_30.eq_2]
    have c : tn f ≤ t := by omega
    rw [fwD] at hr
    simp (disch := omega) only [nIvp, nIcl, e0, g0, nIle, c, Bool.true_eq_false, Bool.false_eq_true, false_implies, true_implies, not_true_eq_false, not_false_eq_true, and_true, true_and]
    exact h2 hr.symm
  | succ d ih =>
    intro t ht hr
    have c : ¬ tn f ≤ t := by omega
    have e4 : pT I 1323 g 316 (1364 + t) = g (41 + t) := by rw [show 1364 + t = 1323 + (41 + t) by omega, pT_get (by omega)]
    have g4 : 1364 + t < 1372 := by omega
    rw [fwD] at hr
    by_cases e : g 1 < g (41 + t)
    · rw [if_pos e] at hr
      obtain ⟨N, hN⟩ := ih (t + 1) (by omega) hr
      refine ⟨N + 1, ?_⟩
      rw [wp_X8_infant_30.eq_2]
      simp (disch := omega) only [nIvp, nIcl, nI_add, e0, ei, e4, g0, g1, g4, nIle, c, e, Bool.true_eq_false, Bool.false_eq_true, false_implies, true_implies, not_true_eq_false, not_false_eq_true, and_true, true_and]
      exact hN
    · rw [if_neg e] at hr
      refine ⟨1, ?_⟩
      rw [wp_X8_infant_30.eq_2]
      simp (disch := omega) only [nIvp, nIcl, nI_add, e0, ei, e4, g0, g1, g4, nIle, c, e, Bool.true_eq_false, Bool.false_eq_true, false_implies, true_implies, not_true_eq_false, not_false_eq_true, and_true, true_and]
      have hne : r ≠ (-nI 1000000) := by rw [← hr, ne_eq, nIneg (by omega) (by omega) (by omega)]; exact not_false
      rw [hr]
      exact h1 hne
theorem m_in_loop {Q : Int32 → II → Prop} {k59 : Int32 → II → Prop} {k81 : II → Prop} {r : Int32} (hf : WF f) (hI : TNW I f) (h1 : r ≠ (-nI 1000000) → ∀ K, FRA I K → k59 r K) (h2 : r = (-nI 1000000) → ∀ K, FRA I K → k81 K) : ∀ (d t : Nat), t + d = tw f → inD f d t = r → ∃ N, wp_X8_infant_17 Q k59 k81 N (nI t) (pT I 1323 (itF f t)) := by
  have hw := hf.w
  have e7 : ∀ g, pT I 1323 g 316 7 = nI (tw f) := fun g => by rw [(hI.pT g).1 7 (by omega), hw.1]
  have g7 : 7 < 1372 := by omega
  intro d
  induction d with
  | zero =>
    intro t ht hr
    refine ⟨2, ?_⟩
    rw [wp_X8_infant_17.eq_2]
    have c : ¬ tw f < t := by omega
    simp (disch := omega) only [nIvp, nIcl, g7, e7, nIlt, c, Bool.true_eq_false, Bool.false_eq_true, false_implies, true_implies, not_true_eq_false, not_false_eq_true, and_true, true_and]
    rw [inD] at hr
    refine m_if_loop (r := r) hf hI (itF_oth hf (by omega) (by omega) t) (fun e => h1 e _ (FRA.pT _ _)) (fun e => ?_) (tn f) 0 (by omega) hr
    refine m_pass (by omega) (itF_wf hf t) ?_
    rw [wp_X8_infant_17.eq_2, nI_add]
    have c2 : tw f < t + 1 := by omega
    simp (disch := omega) only [nIvp, nIcl, g7, e7, nIlt, c2, Bool.true_eq_false, Bool.false_eq_true, false_implies, true_implies, not_true_eq_false, not_false_eq_true, and_true, true_and]
    exact h2 e _ (FRA.pT _ _)
  | succ d ih =>
    intro t ht hr
    have c : ¬ tw f < t := by omega
    rw [inD] at hr
    by_cases e : fwD (itF f t) (tn f) 0 = (-nI 1000000)
    · rw [if_pos e] at hr
      obtain ⟨N, hN⟩ := ih (t + 1) (by omega) hr
      refine ⟨N + 1, ?_⟩
      rw [wp_X8_infant_17.eq_2]
      simp (disch := omega) only [nIvp, nIcl, g7, e7, nIlt, c, Bool.true_eq_false, Bool.false_eq_true, false_implies, true_implies, not_true_eq_false, not_false_eq_true, and_true, true_and]
      refine m_if_loop (r := (-nI 1000000)) hf hI (itF_oth hf (by omega) (by omega) t) (fun z => absurd rfl z) (fun _ => ?_) (tn f) 0 (by omega) e
      refine m_pass (by omega) (itF_wf hf t) ?_
      rw [nI_add]
      exact hN
    · rw [if_neg e] at hr
      refine ⟨1, ?_⟩
      rw [wp_X8_infant_17.eq_2]
      simp (disch := omega) only [nIvp, nIcl, g7, e7, nIlt, c, Bool.true_eq_false, Bool.false_eq_true, false_implies, true_implies, not_true_eq_false, not_false_eq_true, and_true, true_and]
      exact m_if_loop (r := r) hf hI (itF_oth hf (by omega) (by omega) t) (fun e => h1 e _ (FRA.pT _ _)) (fun z => absurd (hr.trans z) e) (tn f) 0 (by omega) hr
end QUERY

/-! ===== stayed ===== -/
def abD (f : TW) (so : Nat → Bool) : Nat → Nat → Int32 → Int32
  | 0, _, x => x
  | d + 1, p, x => abD f so d (p + 1) (if so p then x ||| (nI 1 <<< (nI (tq f p) &&& 31)) else x)
def mdD (is : Nat → Bool) : Nat → Nat → Int32 → Int32
  | 0, _, x => x
  | d + 1, p, x => mdD is d (p + 1) (if is p then x ||| (nI 1 <<< (nI p &&& 31)) else x)
def anR (b : Nat → Bool) : Nat → Nat → Bool
  | 0, _ => false
  | d + 1, i => b i || anR b d (i + 1)
theorem anR_t {b : Nat → Bool} : ∀ d i, anR b d i = true ↔ ∃ k, i ≤ k ∧ k < i + d ∧ b k = true := by
  intro d
  induction d with
  | zero => intro i; exact ⟨fun h => absurd h (by simp [anR]), fun ⟨k, a, c, _⟩ => by omega⟩
  | succ d ih =>
    intro i
    rw [anR, Bool.or_eq_true, ih (i + 1)]
    constructor
    · intro h
      rcases h with h | ⟨k, a, c, e⟩
      · exact ⟨i, by omega, by omega, h⟩
      · exact ⟨k, by omega, by omega, e⟩
    · intro ⟨k, a, c, e⟩
      by_cases q : k = i
      · subst q; exact Or.inl e
      · exact Or.inr ⟨k, by omega, by omega, e⟩
theorem bt_abD {f : TW} (hf : WF f) (so : Nat → Bool) {q : Nat} (hq : q < 32) : ∀ d p x, p + d ≤ tw f → bt (abD f so d p x) q = (bt x q || anR (fun k => so k && decide (tq f k = q)) d p) := by
  intro d
  induction d with
  | zero => intro p x _; rw [abD, anR, Bool.or_false]
  | succ d ih =>
    intro p x hp
    have q7 := (hf.q (k := p) (by omega)).2
    rw [abD, ih (p + 1) _ (by omega), anR]
    cases so p with
    | false => rw [if_neg (by decide), Bool.false_and, Bool.false_or]
    | true => rw [if_pos rfl, b_or, bt_bit (by omega) hq, Bool.true_and, Bool.or_assoc]
theorem bt_mdD (is : Nat → Bool) {q : Nat} (hq : q < 32) : ∀ d p x, p + d ≤ 32 → bt (mdD is d p x) q = (bt x q || anR (fun k => is k && decide (k = q)) d p) := by
  intro d
  induction d with
  | zero => intro p x _; rw [mdD, anR, Bool.or_false]
  | succ d ih =>
    intro p x hp
    rw [mdD, ih (p + 1) _ (by omega), anR]
    cases is p with
    | false => rw [if_neg (by decide), Bool.false_and, Bool.false_or]
    | true => rw [if_pos rfl, b_or, bt_bit (by omega) hq, Bool.true_and, Bool.or_assoc]
def loP (f : TW) (p : Nat) : TW := loT f (kR f (fun k => hasB (nI 1 <<< (nI p &&& 31)) (nI (tq f k))) (tw f) 0)
theorem loP_at {f : TW} (hf : WF f) {k : Nat} (hk : k < tw f) : loP f (tq f k) = loT f ((qL f).eraseIdx k) := by
  unfold loP qL
  congr 1
  have h1 := kR_one f (tw f) 0 k (by omega) (by omega)
  rw [Nat.sub_zero] at h1
  rw [← h1]
  refine kR_congr (tw f) 0 (fun i a b => ?_)
  have i7 := (hf.q (k := i) (by omega)).2
  have k7 := (hf.q hk).2
  rw [hasB_bt (by omega), bt_bit (by omega) (by omega), decide_eq_decide]
  constructor
  · intro e; exact (hf.dist hk (by omega) e).symm
  · intro e; rw [e]
theorem loP_7 {f : TW} (hf : WF f) : loP f 7 = f := by
  unfold loP
  have : kR f (fun k => hasB (nI 1 <<< (nI 7 &&& 31)) (nI (tq f k))) (tw f) 0 = qL f := by
    unfold qL
    rw [← kR_all f (tw f) 0]
    refine kR_congr (tw f) 0 (fun i a b => ?_)
    have i7 := (hf.q (k := i) (by omega)).2
    rw [hasB_bt (by omega), bt_bit (by omega) (by omega)]
    exact decide_eq_false (by omega)
  rw [this, loT_qL hf]
theorem WF.loP {f : TW} (hf : WF f) (p : Nat) : WF (loP f p) := hf.lo (kR_sub f _ (tw f) 0)
theorem stay_eq {f : TW} (hf : WF f) (t : Nat) (its : Nat → Int32) (n : Nat) : abD f (fun k => soD (loT f ((qL f).eraseIdx k)) t its n 0) (tw f) 0 (if soD f t its n 0 then nI 128 else nI 0) = mdD (fun p => (decide (p = 7) || inQ f p) && soD (loP f p) t its n 0) 8 0 (nI 0) := by
  refine b_ext (fun q hq => ?_)
  rw [bt_abD hf _ hq _ _ _ (by omega), bt_mdD _ hq _ _ _ (by omega), b_n0, Bool.false_or]
  have h128 : bt (nI 128) q = decide (q = 7) := (by decide +kernel : ∀ i, i < 32 → bt (nI 128) i = decide (i = 7)) q hq
  have hi : bt (if soD f t its n 0 then nI 128 else nI 0) q = (decide (q = 7) && soD f t its n 0) := by
    cases soD f t its n 0 with
    | true => rw [if_pos rfl, h128, Bool.and_true]
    | false => rw [if_neg (by decide), b_n0, Bool.and_false]
  rw [hi, Bool.eq_iff_iff, Bool.or_eq_true, anR_t, anR_t]
  constructor
  · intro h
    rcases h with h | ⟨k, a, b, e⟩
    · rw [Bool.and_eq_true, decide_eq_true_eq] at h
      refine ⟨7, by omega, by omega, ?_⟩
      rw [h.1, loP_7 hf, h.2]; rfl
    · rw [Bool.and_eq_true, decide_eq_true_eq] at e
      have k7 := (hf.q (k := k) (by omega)).2
      refine ⟨tq f k, by omega, by omega, ?_⟩
      have hin : inQ f (tq f k) = true := by
        unfold inQ
        rw [List.any_eq_true]
        exact ⟨k, List.mem_range.mpr (by omega), by simp⟩
      have e1 := e.1
      rw [← loP_at hf (show k < tw f by omega)] at e1
      show ((decide (tq f k = 7) || inQ f (tq f k)) && soD (loP f (tq f k)) t its n 0 && decide (tq f k = q)) = true
      rw [hin, e1, Bool.or_true, decide_eq_true e.2]; rfl
  · intro ⟨p, a, b, e⟩
    simp only [Bool.and_eq_true, Bool.or_eq_true, decide_eq_true_eq] at e
    obtain ⟨⟨e1, e2⟩, e3⟩ := e
    subst e3
    rcases e1 with e1 | e1
    · subst e1
      rw [loP_7 hf] at e2
      exact Or.inl (by rw [e2]; rfl)
    · unfold inQ at e1
      rw [List.any_eq_true] at e1
      obtain ⟨k, hk, e4⟩ := e1
      have hk := List.mem_range.mp hk
      simp only [decide_eq_true_eq] at e4
      subst e4
      rw [loP_at hf hk] at e2
      exact Or.inr ⟨k, by omega, by omega, by simp only [e2, Bool.true_and, decide_true]⟩
section STAY
variable {I : II} {f : TW}
theorem c_ab_loop {Q : Int32 → II → Prop} {k : Int32 → II → Prop} {u n : Nat} {its : Nat → Int32} {r : Int32} (h : BK True I 0 f) (hf : WF f) (hu : u < tn f) (hn : n ≤ 12) (e2 : I 306 2 = nI n) (e3 : I 306 3 = nI u) (e7 : ∀ k, k < n → I 307 k = its k) (hk : ∀ J, OUT 2 I J → k r J) : ∀ (d p : Nat) (x : Int32) (J : II), p + d = tw f → abD f (fun k => soD (loT f ((qL f).eraseIdx k)) u its n 0) d p x = r → OUT 2 I J → wp_X2_absentPapers_25 0 Q k (d + 1) x (nI p) J := by
  have n4 := hf.n.2
  have hw := hf.w
  intro d
  induction d with
  | zero =>
    intro p x J hp hr ho
    rw [wp_X2_absentPapers_25.eq_2, ho (8 * 0) (by omega), h.1.2.2.2.2.2.2.2, hw.1]
    have c : tw f ≤ p := by omega
    simp (disch := omega) only [nIle, c, Bool.true_eq_false, Bool.false_eq_true, false_implies, true_implies, not_true_eq_false, not_false_eq_true, and_true, true_and]
    rw [abD] at hr
    subst hr
    exact hk J ho
  | succ d ih =>
    intro p x J hp hr ho
    rw [wp_X2_absentPapers_25.eq_2, ho (8 * 0) (by omega), h.1.2.2.2.2.2.2.2, hw.1]
    have c : ¬ tw f ≤ p := by omega
    have jb : BK True J 0 f := h.fr (fun a _ _ => ho a (by omega))
    simp (disch := omega) only [nIle, c, Bool.true_eq_false, Bool.false_eq_true, false_implies, true_implies, not_true_eq_false, not_false_eq_true, and_true, true_and]
    refine c_takeAll (by omega) (fun K hK => ?_)
    have kb := hK.bk jb n4 hw.2
    have q7 := (hf.q (k := p) (by omega)).2
    refine c_leave kb hf (pl := p) (by omega) (fun L lb lo => ?_)
    have eN : ¬ nI (tq f p) = (-nI 1000000) := by rw [nIneg (by omega) (by omega) (by omega)]; exact not_false
    have lv : isLv f p (loT f ((qL f).eraseIdx p)) := by
      have := isLv_lo (f := f) (l := qL f) (pl := p) (by rw [qL_len]; exact hw.2) (by rw [qL_len]; omega)
      rwa [loT_qL hf] at this
    have ok : OUT 2 I L := (ho.tr hK.2.2.2).tr lo
    rw [abD] at hr
    unfold wp_X2_absentPapers_72
    rw [nI_add]
    refine ⟨fun e => absurd e eN, fun _ => ?_⟩
    refine c_asTold (its := its) (n := n) (lb _ lv) (hf.lv (by omega) lv) (by rw [loT_n]; exact hu) hn (by rw [ok _ (by omega)]; exact e2) (by rw [ok _ (by omega)]; exact e3) (fun l hl => by rw [ok _ (by omega)]; exact e7 l hl) (fun M mo => ?_)
    have om := ok.tr mo
    refine gd (fun e => ?_) (fun e => ?_)
    · rw [if_neg (by rw [e]; decide)] at hr
      exact ih (p + 1) x M (by omega) hr om
    · rw [if_pos e] at hr
      exact ih (p + 1) _ M (by omega) hr om
theorem c_absent {Q : Int32 → II → Prop} {u n : Nat} {its : Nat → Int32} (h : BK True I 0 f) (hf : WF f) (hu : u < tn f) (hn : n ≤ 12) (e2 : I 306 2 = nI n) (e3 : I 306 3 = nI u) (e7 : ∀ k, k < n → I 307 k = its k) (hq : ∀ J, OUT 2 I J → Q (abD f (fun k => soD (loT f ((qL f).eraseIdx k)) u its n 0) (tw f) 0 (if soD f u its n 0 then nI 128 else nI 0)) J) : wp_X2_absentPapers 0 I Q := by
  have n4 := hf.n.2
  have hw := hf.w
  unfold wp_X2_absentPapers
  refine c_takeAll (by omega) (fun K hK => ?_)
  have ok := hK.2.2.2
  refine c_asTold (its := its) (n := n) (hK.bk h n4 hw.2) hf hu hn (by rw [ok _ (by omega)]; exact e2) (by rw [ok _ (by omega)]; exact e3) (fun l hl => by rw [ok _ (by omega)]; exact e7 l hl) (fun M mo => ?_)
  have om := ok.tr mo
  unfold wp_X2_absentPapers_22
  refine gd (fun e => ?_) (fun e => ?_)
  · rw [if_neg (by rw [e]; decide)] at hq
    exact ⟨_, c_ab_loop (k := fun x2 I => Q x2 I) h hf hu hn e2 e3 e7 hq (tw f) 0 _ M (by omega) rfl om⟩
  · rw [if_pos e] at hq
    exact ⟨_, c_ab_loop (k := fun x2 I => Q x2 I) h hf hu hn e2 e3 e7 hq (tw f) 0 _ M (by omega) rfl om⟩
theorem m_wait0 {Q : Int32 → II → Prop} {p : Nat} (hf : WF f) (hI : TNW I f) (hp : p < 2147483648) (hk : Q (i1 (inQ f p)) I) : wp_X8_isWaiting (nI 0) (nI p) I Q := by
  have e : pT I 0 f = I := pT_I (fun q hq => by rw [Nat.zero_add]; exact hI.1 q hq)
  rw [← e]
  refine m_isWaiting (by omega) hf hp ?_
  rw [e]; exact hk
theorem m_st_loop {Q : Int32 → II → Prop} {k : Int32 → II → Prop} {u n q a : Nat} {its : Nat → Int32} {r : Int32} (hf : WF f) (hu : u < tn f) (hq : q < 8) (hn : a + n ≤ 40) (e7 : ∀ k, k < n → I 320 (40 * q + a + k) = its k) (hk : ∀ J, FRA I J → k r J) : ∀ (d p : Nat) (x : Int32) (J : II), p + d = 8 → mdD (fun p => (decide (p = 7) || inQ f p) && soD (loP f p) u its n 0) d p x = r → FRA I J → TNW J f → wp_X8_stayed_55 Q k (d + 1) (nI u) (nI q) (nI a) (nI n) x (nI p) J := by
  intro d
  induction d with
  | zero =>
    intro p x J hp hr ho hj
    rw [wp_X8_stayed_55.eq_2]
    have c : 8 ≤ p := by omega
    simp (disch := omega) only [Bool.true_eq_false, Bool.false_eq_true, false_implies, true_implies, not_true_eq_false, not_false_eq_true, and_true, true_and, nIle, c]
    rw [mdD] at hr
    subst hr
    exact hk J ho
  | succ d ih =>
    intro p x J hp hr ho hj
    rw [wp_X8_stayed_55.eq_2]
    have c : ¬ 8 ≤ p := by omega
    simp (disch := omega) only [Bool.true_eq_false, Bool.false_eq_true, false_implies, true_implies, not_true_eq_false, not_false_eq_true, and_true, true_and, nIle, c, nIeq]
    refine m_leaveOut hf hj ?_
    show (_ → _) ∧ (_ → _)
    have fr := FRA.pT J (loP f p)
    rw [mdD] at hr
    have no : ((decide (p = 7) || inQ f p) && soD (loP f p) u its n 0) = false → ∀ K, FRA I K → TNW K f → wp_X8_stayed_103 Q (fun x1 x2 x3 x4 x6 x7 I => wp_X8_stayed_55 Q k (d + 1) x1 x2 x3 x4 x6 x7 I) (nI u) (nI q) (nI a) (nI n) x (nI p) K := fun e K hK tk => by
      unfold wp_X8_stayed_103 wp_X8_stayed_104 wp_X8_stayed_121
      rw [if_neg (by rw [e]; decide)] at hr
      refine ⟨fun _ => ?_, fun z => absurd nI_0 z⟩
      rw [nI_0, Int32.or_zero, nI_add]
      exact ih (p + 1) x K (by omega) hr hK tk
    have yes : (decide (p = 7) || inQ f p) = true → wp_X8_stayed_87 Q (fun x1 x2 x3 x4 x6 x7 I => wp_X8_stayed_55 Q k (d + 1) x1 x2 x3 x4 x6 x7 I) (nI u) (nI q) (nI a) (nI n) x (nI p) (pT J 1323 (loP f p)) := fun e => by
      unfold wp_X8_stayed_87
      refine m_isSo (its := its) (hf.loP p) (by unfold loP; rw [loT_n]; exact hu) hq hn (fun l hl => ?_) (fun h => ?_)
      · rw [ho 320 _ (by unfold scr; omega)]; exact e7 l hl
      · have fr2 := FRA.pT J h
        refine gd (fun e2 => no (by rw [e, e2]; rfl) _ (ho.tr fr2) (hj.fr fr2)) (fun e2 => ?_)
        rw [if_pos (by rw [e, e2]; rfl)] at hr
        unfold wp_X8_stayed_104 wp_X8_stayed_121
        refine ⟨fun z => absurd z (by decide), fun _ => ?_⟩
        rw [nI_add]
        exact ih (p + 1) _ _ (by omega) hr (ho.tr fr2) (hj.fr fr2)
    refine ⟨fun e => yes (by rw [decide_eq_true e]; rfl), fun e => ?_⟩
    refine m_wait0 hf (hj.fr fr) (by omega) ?_
    refine gd (fun e2 => no (by rw [decide_eq_false e, e2]; rfl) _ (ho.tr fr) (hj.fr fr)) (fun e2 => yes (by rw [e2, Bool.or_true]))
end STAY
theorem s_stayed (x1 x4 x5 x6 : Int32) : SIM (wp_X7_stayed x1 x4 x5 x6) (wp_X8_stayed x1 x4 x5 x6) := by
  refine SIM.qs (fun I f v hf hz c m => ?_)
  have n4 := hf.n.2
  have hw := hf.w
  by_cases ha : hT f x1 = true ∧ inB 0 7 x4 = true ∧ inB 1 12 x6 = true
  · obtain ⟨e1, e4, e5⟩ := ha
    obtain ⟨u, hu, rfl⟩ := hT_of hf e1
    obtain ⟨q, -, hq, rfl⟩ := inB_of (by omega) (by omega) e4
    obtain ⟨n, hn1, hn, rfl⟩ := inB_of (by omega) (by omega) e5
    have hq8 : q < 8 := by omega
    cases fd : fdN I q x5 (nI n) with
    | succ w =>
      have w2 : w ≤ 1 := by
        unfold fdN at fd
        split at fd
        · omega
        · split at fd <;> omega
      refine ⟨-nI 1000010 - nI (w + 1), some (nI (w + 1)), fun Q hQ => ?_, fun J Q hJ mj hQ => ?_⟩
      · unfold wp_X7_stayed
        rw [c_hasTeller c hf, e1, i1_0, k_isRow, e4, i1_0, k_isWatched, e5, i1_0]
        simp only [Bool.true_eq_false, Bool.false_eq_true, false_implies, true_implies, not_true_eq_false, not_false_eq_true, and_true, true_and]
        refine c_findingOf v.row hq8 ?_
        rw [fd]
        refine ⟨fun e => absurd e (nIn0 w (by omega)), fun _ => ?_⟩
        rw [k_found]; exact hQ I (FRA.rf I)
      · unfold wp_X8_stayed
        rw [m_isTeller mj.1 hf, e1, i1_0, m_isRow, e4, i1_0, m_inE _ _ _ _ _ (by omega) (by omega), e5, i1_0]
        simp only [Bool.true_eq_false, Bool.false_eq_true, false_implies, true_implies, not_true_eq_false, not_false_eq_true, and_true, true_and]
        have ff : fdN J q x5 (nI n) = w + 1 := by rw [fdN_fr ⟨hJ.cell (by omega) (fun k q => by unfold scr at q; omega), hJ.cell (by omega) (fun k q => by unfold scr at q; omega)⟩, fd]
        refine m_noItems (v.row.st hJ) hq8 (fun e => by omega) (fun w' e => ?_)
        have : w' = w := by omega
        subst this
        refine ⟨fun e => absurd e ?_, fun _ => hQ J (FRA.rf J)⟩
        have : w' = 0 ∨ w' = 1 := by omega
        rcases this with rfl | rfl <;> decide
    | zero =>
      obtain ⟨a, z, rfl, hz1, hz2, e9, eit⟩ := fdN_0 v.row hq8 hn fd
      refine ⟨mdD (fun p => (decide (p = 7) || inQ f p) && soD (loP f p) u (fun k => I 300 (40 * q + a + k)) n 0) 8 0 (nI 0), some (nI 0), fun Q hQ => ?_, fun J Q hJ mj hQ => ?_⟩
      · unfold wp_X7_stayed
        rw [c_hasTeller c hf, e1, i1_0, k_isRow, e4, i1_0, k_isWatched, e5, i1_0]
        simp only [Bool.true_eq_false, Bool.false_eq_true, false_implies, true_implies, not_true_eq_false, not_false_eq_true, and_true, true_and]
        refine c_findingOf v.row hq8 ?_
        rw [fd]
        refine ⟨fun _ => ?_, fun e => absurd nI_0 e⟩
        refine c_watch hq8 hz2 hz1 hn e9 (fun J1 h1 h2 h3 h4 h5 => ?_)
        have cb : BK True J1 0 f := c.fr (fun b b1 b2 => h2 b (by omega) (by omega))
        refine c_absent (its := fun k => I 300 (40 * q + a + k)) cb hf hu hn h3 h4 h5 (fun J jo => ?_)
        rw [stay_eq hf, k_fine]
        exact hQ J (h1.tr (FRA.out (by omega) jo))
      · unfold wp_X8_stayed
        rw [m_isTeller mj.1 hf, e1, i1_0, m_isRow, e4, i1_0, m_inE _ _ _ _ _ (by omega) (by omega), e5, i1_0]
        simp only [Bool.true_eq_false, Bool.false_eq_true, false_implies, true_implies, not_true_eq_false, not_false_eq_true, and_true, true_and]
        have ff : fdN J q (nI a) (nI n) = 0 := by rw [fdN_fr ⟨hJ.cell (by omega) (fun k q => by unfold scr at q; omega), hJ.cell (by omega) (fun k q => by unfold scr at q; omega)⟩, fd]
        refine m_noItems (v.row.st hJ) hq8 (fun _ => ?_) (fun w' e => by omega)
        refine ⟨fun _ => ⟨_, m_st_loop (I := J) (its := fun k => I 300 (40 * q + a + k)) hf hu hq8 (by omega) (fun k hk => ?_) (fun K hK => ?_) 8 0 (nI 0) J (by omega) rfl (FRA.rf J) mj⟩, fun e => absurd nI_0 e⟩
        · have := FRA.cell (z := some (nI 0)) (I := I) (J := J) (a := 320) hJ (by omega) (fun k q => by unfold scr at q; omega)
          rw [this, Nat.add_assoc, eit _ (by omega)]
        · show wp_X8_well _ K _; rw [m_well]; exact hQ K hK
  · refine ⟨-nI 1000001, none, fun Q hQ => ?_, fun J Q hJ mj hQ => ?_⟩
    · have q0 := hQ I (FRA.rf I)
      unfold wp_X7_stayed
      rw [c_hasTeller c hf]
      refine gd (fun _ => q0) (fun e1 => ?_)
      rw [k_isRow]
      refine gd (fun _ => q0) (fun e4 => ?_)
      rw [k_isWatched]
      exact gd' (fun _ => q0) (fun e5 => absurd ⟨e1, e4, e5⟩ ha)
    · have q0 := hQ J (FRA.rf J)
      unfold wp_X8_stayed
      rw [m_isTeller mj.1 hf]
      refine gd (fun _ => q0) (fun e1 => ?_)
      rw [m_isRow]
      refine gd (fun _ => q0) (fun e4 => ?_)
      rw [m_inE _ _ _ _ _ (by omega) (by omega)]
      exact gd' (fun _ => q0) (fun e5 => absurd ⟨e1, e4, e5⟩ ha)

/-! ===== who, sums ===== -/
section WHO
variable {s : Prop} {I : II} {f : TW}
theorem WF.tel (hf : WF f) {q : Nat} {v : Int32} (hq : 29 ≤ q ∧ q < 41) (hv : ∀ t, t < tn f → (q = 29 + t → ∃ k, 1 ≤ k ∧ k ≤ 5 ∧ v = nI k) ∧ (q = 33 + t → ∃ d, d ≤ 60 ∧ v = nI d) ∧ (q = 37 + t → ∃ c, 1 ≤ c ∧ c ≤ 9 ∧ v = nI c)) : WF (upd f q v) := by
  have n4 := hf.n.2
  have w7 := hf.w.2
  have en : tn (upd f q v) = tn f := by rw [tn, upd_ne (by omega)]; rfl
  have ew : tw (upd f q v) = tw f := by rw [tw, upd_ne (by omega)]; rfl
  have eq : ∀ k, k < 7 → tq (upd f q v) k = tq f k := fun k hk => by rw [tq, upd_ne (by omega)]; rfl
  refine ⟨⟨?_, ?_⟩, ⟨?_, ?_⟩, fun k hk => ?_, fun i k hi hk e => ?_, fun p hp => ?_, fun k hk => ?_, fun p hp hk => ?_, fun t ht => ?_, fun h0 => ?_⟩
  · rw [upd_ne (by omega), en]; exact hf.n.1
  · rw [en]; exact n4
  · rw [upd_ne (by omega), ew]; exact hf.w.1
  · rw [ew]; exact w7
  · rw [ew] at hk
    rw [eq k (by omega), upd_ne (by omega)]; exact hf.q hk
  · rw [ew] at hi hk
    rw [eq i (by omega), eq k (by omega)] at e; exact hf.dist hi hk e
  · rw [upd_ne (by omega)]; exact hf.dr hp
  · rw [ew] at hk
    have := (hf.q hk).2
    rw [eq k (by omega), upd_ne (by omega)]; exact hf.kn hk
  · rw [upd_ne (by omega)] at hk
    rw [upd_ne (by omega)]; exact hf.sm hp hk
  · rw [en] at ht
    obtain ⟨v1, v2, v3⟩ := hv t ht
    obtain ⟨t1, t2, t3, t4⟩ := hf.te ht
    refine ⟨?_, ?_, ?_, ?_⟩
    · by_cases e : q = 29 + t
      · obtain ⟨k, a, b, c⟩ := v1 e
        exact ⟨k, a, b, by rw [← e, upd_eq]; exact c⟩
      · rw [upd_ne (by omega)]; exact t1
    · by_cases e : q = 33 + t
      · obtain ⟨k, a, b⟩ := v2 e
        exact ⟨k, a, by rw [← e, upd_eq]; exact b⟩
      · rw [upd_ne (by omega)]; exact t2
    · by_cases e : q = 37 + t
      · obtain ⟨k, a, b, c⟩ := v3 e
        exact ⟨k, a, b, by rw [← e, upd_eq]; exact c⟩
      · rw [upd_ne (by omega)]; exact t3
    · rw [upd_ne (by omega)]; exact t4
  · rw [en] at h0
    rw [upd_ne (by omega), upd_ne (by omega)]; exact hf.wk h0
theorem WF.sum (hf : WF f) {p v : Nat} (hp : p < 7) (h1 : 1 ≤ v) (h2 : v ≤ 30) : WF (upd f (15 + p) (nI v)) := by
  have n4 := hf.n.2
  have w7 := hf.w.2
  have en : tn (upd f (15 + p) (nI v)) = tn f := by rw [tn, upd_ne (by omega)]; rfl
  have ew : tw (upd f (15 + p) (nI v)) = tw f := by rw [tw, upd_ne (by omega)]; rfl
  have eq : ∀ k, k < 7 → tq (upd f (15 + p) (nI v)) k = tq f k := fun k hk => by rw [tq, upd_ne (by omega)]; rfl
  refine ⟨⟨?_, ?_⟩, ⟨?_, ?_⟩, fun k hk => ?_, fun i k hi hk e => ?_, fun q hq => ?_, fun k hk => ?_, fun q hq hk => ?_, fun t ht => ?_, fun h0 => ?_⟩
  · rw [upd_ne (by omega), en]; exact hf.n.1
  · rw [en]; exact n4
  · rw [upd_ne (by omega), ew]; exact hf.w.1
  · rw [ew]; exact w7
  · rw [ew] at hk
    rw [eq k (by omega), upd_ne (by omega)]; exact hf.q hk
  · rw [ew] at hi hk
    rw [eq i (by omega), eq k (by omega)] at e; exact hf.dist hi hk e
  · rw [upd_ne (by omega)]; exact hf.dr hq
  · rw [ew] at hk
    have := (hf.q hk).2
    rw [eq k (by omega), upd_ne (by omega)]; exact hf.kn hk
  · rw [upd_ne (by omega)] at hk
    by_cases e : q = p
    · subst e; rw [upd_eq]; exact ⟨v, h1, h2, rfl⟩
    · rw [upd_ne (by omega)]; exact hf.sm hq hk
  · rw [en] at ht
    rw [upd_ne (by omega), upd_ne (by omega), upd_ne (by omega), upd_ne (by omega)]; exact hf.te ht
  · rw [en] at h0
    rw [upd_ne (by omega), upd_ne (by omega)]; exact hf.wk h0
theorem BK.col {j : Nat} (h : BK s I j f) (hf4 : tn f ≤ 4) (hf7 : tw f ≤ 7) (i ix t : Nat) (v : Int32) (ht4 : t < 4) (hi : (i = 1 ∧ ix = 29) ∨ (i = 3 ∧ ix = 37)) : BK s (su I (8 * j + i) t v) j (upd f (ix + t) v) := by
  obtain ⟨hx, ht, hq, hk, hd⟩ := h
  have u : ∀ q, q < 29 → upd f (ix + t) v q = f q := fun q hq => upd_ne (by omega)
  have e1 : tn (upd f (ix + t) v) = tn f := by rw [tn, tn, u 0 (by omega)]
  have e2 : tw (upd f (ix + t) v) = tw f := by rw [tw, tw, u 7 (by omega)]
  refine ⟨?_, fun w h => ?_, fun k h => ?_, fun p h => ?_, fun p h g => ?_⟩
  · rw [su_cell (by omega), u 0 (by omega), u 1 (by omega), u 2 (by omega), u 3 (by omega), u 4 (by omega), u 5 (by omega), u 6 (by omega), u 7 (by omega)]; exact hx
  · rw [e1] at h
    obtain ⟨a1, a2, a3, a4, a5⟩ := ht w h
    rcases hi with ⟨rfl, rfl⟩ | ⟨rfl, rfl⟩
    · rw [su_cell (a' := 8 * j + 2) (by omega), su_cell (a' := 8 * j + 3) (by omega), su_cell (a' := 8 * j + 4) (by omega), su_cell (a' := 8 * j + 5) (by omega), upd_ne (k' := 33 + w) (by omega), upd_ne (k' := 37 + w) (by omega), upd_ne (k' := 41 + w) (by omega), upd_ne (k' := 45 + w) (by omega)]
      refine ⟨?_, a2, a3, a4, a5⟩
      by_cases e : w = t
      · subst e; rw [su_eq, upd_eq]
      · rw [su_slot e, upd_ne (by omega)]; exact a1
    · rw [su_cell (a' := 8 * j + 2) (by omega), su_cell (a' := 8 * j + 1) (by omega), su_cell (a' := 8 * j + 4) (by omega), su_cell (a' := 8 * j + 5) (by omega), upd_ne (k' := 33 + w) (by omega), upd_ne (k' := 29 + w) (by omega), upd_ne (k' := 41 + w) (by omega), upd_ne (k' := 45 + w) (by omega)]
      refine ⟨a1, a2, ?_, a4, a5⟩
      by_cases e : w = t
      · subst e; rw [su_eq, upd_eq]
      · rw [su_slot e, upd_ne (by omega)]; exact a3
  · rw [e2] at h
    rw [u _ (by omega), su_cell (by omega)]; exact hq k h
  · rw [u _ (by omega), su_cell (by omega)]; exact hk p h
  · rw [u _ (by omega)] at g
    rw [u _ (by omega), u _ (by omega), su_cell (by omega), su_cell (by omega)]; exact hd p h g
theorem BK.sm {j : Nat} (h : BK s I j f) (hf4 : tn f ≤ 4) (hf7 : tw f ≤ 7) (t : Nat) (v : Int32) (ht7 : t < 7) : BK s (su I (8 * j + 6) t v) j (upd f (15 + t) v) := by
  obtain ⟨hx, ht, hq, hk, hd⟩ := h
  have u : ∀ q, (q < 15 ∨ 22 ≤ q) → upd f (15 + t) v q = f q := fun q hq => upd_ne (by omega)
  have e1 : tn (upd f (15 + t) v) = tn f := by rw [tn, tn, u 0 (by omega)]
  have e2 : tw (upd f (15 + t) v) = tw f := by rw [tw, tw, u 7 (by omega)]
  refine ⟨?_, fun w h => ?_, fun k h => ?_, fun p h => ?_, fun p h g => ?_⟩
  · rw [su_cell (by omega), u 0 (by omega), u 1 (by omega), u 2 (by omega), u 3 (by omega), u 4 (by omega), u 5 (by omega), u 6 (by omega), u 7 (by omega)]; exact hx
  · rw [e1] at h
    rw [su_cell (by omega), su_cell (by omega), su_cell (by omega), su_cell (by omega), su_cell (by omega), u _ (by omega), u _ (by omega), u _ (by omega), u _ (by omega), u _ (by omega)]
    exact ht w h
  · rw [e2] at h
    rw [u _ (by omega), su_cell (by omega)]; exact hq k h
  · rw [u _ (by omega), su_cell (by omega)]; exact hk p h
  · rw [u _ (by omega)] at g
    obtain ⟨d1, d2⟩ := hd p h g
    rw [u _ (by omega), su_cell (by omega)]
    refine ⟨d1, ?_⟩
    by_cases e : p = t
    · subst e; rw [su_eq, upd_eq]
    · rw [su_slot e, upd_ne (by omega)]; exact d2
/-- all v that fit -/
def mkD (G : Nat → TW) (t : Nat) (its : Nat → Int32) (n : Nat) : Nat → Nat → Int32 → Int32
  | 0, _, x => x
  | d + 1, v, x => mkD G t its n d (v + 1) (if soD (G v) t its n 0 then x ||| (nI 1 <<< (nI v &&& 31)) else x)
theorem c_ki_loop {Q : Int32 → II → Prop} {k : Int32 → II → Prop} {t u n : Nat} {its : Nat → Int32} {r : Int32} (h : BK True I 0 f) (hf : WF f) (ht : t < tn f) (hu : u < tn f) (hn : n ≤ 12) (e2 : I 306 2 = nI n) (e3 : I 306 3 = nI u) (e7 : ∀ k, k < n → I 307 k = its k) (hk : ∀ J, OUT 2 I J → k r J) : ∀ (d v : Nat) (x : Int32) (J : II), 1 ≤ v → v + d = 5 + 1 → mkD (fun v => upd f (29 + t) (nI v)) u its n d v x = r → OUT 2 I J → wp_X2_kindsOf_5 0 Q k (d + 1) (nI t) x (nI v) J := by
  have n4 := hf.n.2
  have w7 := hf.w.2
  have t4 : t < 4 := by omega
  have hT' : hT f (nI t) = true := by rw [hT_nI hf (by omega)]; exact decide_eq_true ht
  intro d
  induction d with
  | zero =>
    intro v x J _ hv hr ho
    rw [wp_X2_kindsOf_5.eq_2]
    have c : 5 < v := by omega
    simp (disch := omega) only [nIlt, c, Bool.true_eq_false, Bool.false_eq_true, false_implies, true_implies, not_true_eq_false, not_false_eq_true, and_true, true_and]
    rw [mkD] at hr
    subst hr
    exact hk J ho
  | succ d ih =>
    intro v x J hv1 hv hr ho
    rw [wp_X2_kindsOf_5.eq_2]
    have c : ¬ 5 < v := by omega
    have jb : BK True J 0 f := h.fr (fun a _ _ => ho a (by omega))
    simp (disch := omega) only [nIlt, c, Bool.true_eq_false, Bool.false_eq_true, false_implies, true_implies, not_true_eq_false, not_false_eq_true, and_true, true_and]
    rw [c_hasTeller jb hf, hT', i1_0]
    simp only [Bool.true_eq_false, Bool.false_eq_true, false_implies, true_implies, not_true_eq_false, not_false_eq_true, and_true, true_and]
    refine c_takeAll (by omega) (fun K hK => ?_)
    have kb := hK.bk jb n4 w7
    simp (disch := omega) only [nIvp, nIcl, t4, Bool.true_eq_false, Bool.false_eq_true, false_implies, true_implies, not_true_eq_false, not_false_eq_true, and_true, true_and, forall_eq]
    have lb := kb.col n4 w7 1 29 t (nI v) t4 (by omega)
    have ok : OUT 2 I (su K (8 * 2 + 1) t (nI v)) := (ho.tr hK.2.2.2).su (by omega)
    have en : tn (upd f (29 + t) (nI v)) = tn f := by rw [tn, upd_ne (by omega)]; rfl
    have wg : WF (upd f (29 + t) (nI v)) := hf.tel (by omega) (fun w hw => ⟨fun e => ?_, fun e => ?_, fun e => ?_⟩)
    · rw [mkD] at hr
      refine c_asTold (its := its) (n := n) lb wg (by rw [en]; exact hu) hn (by rw [ok _ (by omega)]; exact e2) (by rw [ok _ (by omega)]; exact e3) (fun l hl => by rw [ok _ (by omega)]; exact e7 l hl) (fun L lo => ?_)
      have ol := ok.tr lo
      rw [i1_0]
      unfold wp_X2_kindsOf_52
      rw [nI_add]
      refine ⟨fun e => ?_, fun e => ?_⟩
      · rw [if_neg (by rw [e]; decide)] at hr
        exact ih (v + 1) x L (by omega) (by omega) hr ol
      · rw [if_pos (by simpa using e)] at hr
        exact ih (v + 1) _ L (by omega) (by omega) hr ol
    all_goals first | exact ⟨v, by omega, by omega, rfl⟩ | exact absurd e (by omega)
theorem c_ca_loop {Q : Int32 → II → Prop} {k : Int32 → II → Prop} {t u n : Nat} {its : Nat → Int32} {r : Int32} (h : BK True I 0 f) (hf : WF f) (ht : t < tn f) (hu : u < tn f) (hn : n ≤ 12) (e2 : I 306 2 = nI n) (e3 : I 306 3 = nI u) (e7 : ∀ k, k < n → I 307 k = its k) (hk : ∀ J, OUT 2 I J → k r J) : ∀ (d v : Nat) (x : Int32) (J : II), 1 ≤ v → v + d = 9 + 1 → mkD (fun v => upd f (37 + t) (nI v)) u its n d v x = r → OUT 2 I J → wp_X2_caresOf_5 0 Q k (d + 1) (nI t) x (nI v) J := by
  have n4 := hf.n.2
  have w7 := hf.w.2
  have t4 : t < 4 := by omega
  have hT' : hT f (nI t) = true := by rw [hT_nI hf (by omega)]; exact decide_eq_true ht
  intro d
  induction d with
  | zero =>
    intro v x J _ hv hr ho
    rw [wp_X2_caresOf_5.eq_2]
    have c : 9 < v := by omega
    simp (disch := omega) only [nIlt, c, Bool.true_eq_false, Bool.false_eq_true, false_implies, true_implies, not_true_eq_false, not_false_eq_true, and_true, true_and]
    rw [mkD] at hr
    subst hr
    exact hk J ho
  | succ d ih =>
    intro v x J hv1 hv hr ho
    rw [wp_X2_caresOf_5.eq_2]
    have c : ¬ 9 < v := by omega
    have jb : BK True J 0 f := h.fr (fun a _ _ => ho a (by omega))
    simp (disch := omega) only [nIlt, c, Bool.true_eq_false, Bool.false_eq_true, false_implies, true_implies, not_true_eq_false, not_false_eq_true, and_true, true_and]
    rw [c_hasTeller jb hf, hT', i1_0]
    simp only [Bool.true_eq_false, Bool.false_eq_true, false_implies, true_implies, not_true_eq_false, not_false_eq_true, and_true, true_and]
    refine c_takeAll (by omega) (fun K hK => ?_)
    have kb := hK.bk jb n4 w7
    simp (disch := omega) only [nIvp, nIcl, t4, Bool.true_eq_false, Bool.false_eq_true, false_implies, true_implies, not_true_eq_false, not_false_eq_true, and_true, true_and, forall_eq]
    have lb := kb.col n4 w7 3 37 t (nI v) t4 (by omega)
    have ok : OUT 2 I (su K (8 * 2 + 3) t (nI v)) := (ho.tr hK.2.2.2).su (by omega)
    have en : tn (upd f (37 + t) (nI v)) = tn f := by rw [tn, upd_ne (by omega)]; rfl
    have wg : WF (upd f (37 + t) (nI v)) := hf.tel (by omega) (fun w hw => ⟨fun e => ?_, fun e => ?_, fun e => ?_⟩)
    · rw [mkD] at hr
      refine c_asTold (its := its) (n := n) lb wg (by rw [en]; exact hu) hn (by rw [ok _ (by omega)]; exact e2) (by rw [ok _ (by omega)]; exact e3) (fun l hl => by rw [ok _ (by omega)]; exact e7 l hl) (fun L lo => ?_)
      have ol := ok.tr lo
      rw [i1_0]
      unfold wp_X2_caresOf_53
      rw [nI_add]
      refine ⟨fun e => ?_, fun e => ?_⟩
      · rw [if_neg (by rw [e]; decide)] at hr
        exact ih (v + 1) x L (by omega) (by omega) hr ol
      · rw [if_pos (by simpa using e)] at hr
        exact ih (v + 1) _ L (by omega) (by omega) hr ol
    all_goals first | exact ⟨v, by omega, by omega, rfl⟩ | exact absurd e (by omega)
theorem m_ki_loop {Q : Int32 → II → Prop} {k : Int32 → II → Prop} {t u n q a : Nat} {y : Int32} {its : Nat → Int32} {r : Int32} (hf : WF f) (ht : t < tn f) (hu : u < tn f) (hq : q < 8) (hn : a + n ≤ 40) (hy : y = 0) (e7 : ∀ k, k < n → I 320 (40 * q + a + k) = its k) (hk : ∀ J, FRA I J → k r J) : ∀ (d v : Nat) (x : Int32) (J : II), 1 ≤ v → v + d = 5 + 1 → mkD (fun v => upd f (29 + t) (nI v)) u its n d v x = r → FRA I J → TNW J f → wp_X8_who_76 Q k (d + 1) (nI t) y (nI u) (nI q) (nI a) (nI n) x (nI v) J := by
  subst hy
  have n4 := hf.n.2
  have w7 := hf.w.2
  intro d
  induction d with
  | zero =>
    intro v x J _ hv hr ho hj
    rw [wp_X8_who_76.eq_2]
    have c : 5 + 1 ≤ v := by omega
    simp (disch := omega) only [eq_self, Bool.true_eq_false, Bool.false_eq_true, false_implies, true_implies, not_true_eq_false, not_false_eq_true, and_true, true_and, wp_X8_who_89, nIle, c]
    rw [mkD] at hr
    subst hr
    exact hk J ho
  | succ d ih =>
    intro v x J hv1 hv hr ho hj
    rw [wp_X8_who_76.eq_2]
    have c : ¬ 5 + 1 ≤ v := by omega
    simp (disch := omega) only [eq_self, Bool.true_eq_false, Bool.false_eq_true, false_implies, true_implies, not_true_eq_false, not_false_eq_true, and_true, true_and, wp_X8_who_89, nIle, c]
    refine m_layTried hf hj.1 (by omega) ?_
    have gx : 1323 + (29 + t) < 1372 := by omega
    have en : tn (upd f (29 + t) (nI v)) = tn f := by rw [tn, upd_ne (by omega)]; rfl
    have wg : WF (upd f (29 + t) (nI v)) := hf.tel (by omega) (fun w hw => ⟨fun e => ?_, fun e => ?_, fun e => ?_⟩)
    · rw [mkD] at hr
      have e0 : itF f 0 = f := rfl
      rw [e0]
      simp (disch := omega) only [wp_X8_who_115, nI_add, Nat.add_assoc, nIvp, nIcl, gx, forall_eq, pT_set, Bool.true_eq_false, Bool.false_eq_true, false_implies, true_implies, not_true_eq_false, not_false_eq_true, and_true, true_and]
      refine m_isSo (its := its) wg (by rw [en]; exact hu) hq hn (fun l hl => ?_) (fun h => ?_)
      · rw [ho 320 _ (by unfold scr; omega)]; exact e7 l hl
      · have fr := FRA.pT J h
        rw [i1_0]
        unfold wp_X8_who_145
        rw [nI_add]
        refine ⟨fun e => ?_, fun e => ?_⟩
        · rw [if_neg (by rw [e]; decide)] at hr
          rw [nI_0, Int32.or_zero]
          exact ih (v + 1) x _ (by omega) (by omega) hr (ho.tr fr) (hj.fr fr)
        · rw [if_pos (by simpa using e)] at hr
          exact ih (v + 1) _ _ (by omega) (by omega) hr (ho.tr fr) (hj.fr fr)
    all_goals first | exact ⟨v, by omega, by omega, rfl⟩ | exact absurd e (by omega)
theorem m_ca_loop {Q : Int32 → II → Prop} {k : Int32 → II → Prop} {t u n q a : Nat} {y : Int32} {its : Nat → Int32} {r : Int32} (hf : WF f) (ht : t < tn f) (hu : u < tn f) (hq : q < 8) (hn : a + n ≤ 40) (hy : ¬ y = 0) (e7 : ∀ k, k < n → I 320 (40 * q + a + k) = its k) (hk : ∀ J, FRA I J → k r J) : ∀ (d v : Nat) (x : Int32) (J : II), 1 ≤ v → v + d = 9 + 1 → mkD (fun v => upd f (37 + t) (nI v)) u its n d v x = r → FRA I J → TNW J f → wp_X8_who_76 Q k (d + 1) (nI t) y (nI u) (nI q) (nI a) (nI n) x (nI v) J := by
  have hy := hy
  have n4 := hf.n.2
  have w7 := hf.w.2
  intro d
  induction d with
  | zero =>
    intro v x J _ hv hr ho hj
    rw [wp_X8_who_76.eq_2]
    have c : 9 + 1 ≤ v := by omega
    simp (disch := omega) only [hy, Bool.true_eq_false, Bool.false_eq_true, false_implies, true_implies, not_true_eq_false, not_false_eq_true, and_true, true_and, wp_X8_who_89, nIle, c]
    rw [mkD] at hr
    subst hr
    exact hk J ho
  | succ d ih =>
    intro v x J hv1 hv hr ho hj
    rw [wp_X8_who_76.eq_2]
    have c : ¬ 9 + 1 ≤ v := by omega
    simp (disch := omega) only [hy, Bool.true_eq_false, Bool.false_eq_true, false_implies, true_implies, not_true_eq_false, not_false_eq_true, and_true, true_and, wp_X8_who_89, nIle, c]
    refine m_layTried hf hj.1 (by omega) ?_
    have gx : 1323 + (37 + t) < 1372 := by omega
    have en : tn (upd f (37 + t) (nI v)) = tn f := by rw [tn, upd_ne (by omega)]; rfl
    have wg : WF (upd f (37 + t) (nI v)) := hf.tel (by omega) (fun w hw => ⟨fun e => ?_, fun e => ?_, fun e => ?_⟩)
    · rw [mkD] at hr
      have e0 : itF f 0 = f := rfl
      rw [e0]
      simp (disch := omega) only [wp_X8_who_115, nI_add, Nat.add_assoc, nIvp, nIcl, gx, forall_eq, pT_set, Bool.true_eq_false, Bool.false_eq_true, false_implies, true_implies, not_true_eq_false, not_false_eq_true, and_true, true_and]
      refine m_isSo (its := its) wg (by rw [en]; exact hu) hq hn (fun l hl => ?_) (fun h => ?_)
      · rw [ho 320 _ (by unfold scr; omega)]; exact e7 l hl
      · have fr := FRA.pT J h
        rw [i1_0]
        unfold wp_X8_who_145
        rw [nI_add]
        refine ⟨fun e => ?_, fun e => ?_⟩
        · rw [if_neg (by rw [e]; decide)] at hr
          rw [nI_0, Int32.or_zero]
          exact ih (v + 1) x _ (by omega) (by omega) hr (ho.tr fr) (hj.fr fr)
        · rw [if_pos (by simpa using e)] at hr
          exact ih (v + 1) _ _ (by omega) (by omega) hr (ho.tr fr) (hj.fr fr)
    all_goals first | exact ⟨v, by omega, by omega, rfl⟩ | exact absurd e (by omega)
theorem c_sf_loop {Q : Int32 → II → Prop} {k : Int32 → II → Prop} {t u n : Nat} {its : Nat → Int32} {r : Int32} (h : BK True I 0 f) (hf : WF f) (ht : t < 7) (hkp : kpT f (nI t) = true) (hu : u < tn f) (hn : n ≤ 12) (e2 : I 306 2 = nI n) (e3 : I 306 3 = nI u) (e7 : ∀ k, k < n → I 307 k = its k) (hk : ∀ J, OUT 2 I J → k r J) : ∀ (d v : Nat) (x : Int32) (J : II), 1 ≤ v → v + d = 31 → mkD (fun v => upd f (15 + t) (nI v)) u its n d v x = r → OUT 2 I J → wp_X2_sumsOfFirst_11 0 Q k (d + 1) x (nI t) (nI v) J := by
  have n4 := hf.n.2
  have w7 := hf.w.2
  intro d
  induction d with
  | zero =>
    intro v x J _ hv hr ho
    rw [wp_X2_sumsOfFirst_11.eq_2]
    have c : 30 < v := by omega
    simp (disch := omega) only [nIlt, c, Bool.true_eq_false, Bool.false_eq_true, false_implies, true_implies, not_true_eq_false, not_false_eq_true, and_true, true_and]
    rw [mkD] at hr
    subst hr
    exact hk J ho
  | succ d ih =>
    intro v x J hv1 hv hr ho
    rw [wp_X2_sumsOfFirst_11.eq_2]
    have c : ¬ 30 < v := by omega
    have jb : BK True J 0 f := h.fr (fun a _ _ => ho a (by omega))
    simp (disch := omega) only [nIlt, c, Bool.true_eq_false, Bool.false_eq_true, false_implies, true_implies, not_true_eq_false, not_false_eq_true, and_true, true_and]
    rw [c_knows jb, hkp, i1_0]
    simp only [Bool.true_eq_false, Bool.false_eq_true, false_implies, true_implies, not_true_eq_false, not_false_eq_true, and_true, true_and]
    refine c_takeAll (by omega) (fun K hK => ?_)
    have kb := hK.bk jb n4 w7
    simp (disch := omega) only [nIvp, nIcl, ht, Bool.true_eq_false, Bool.false_eq_true, false_implies, true_implies, not_true_eq_false, not_false_eq_true, and_true, true_and, forall_eq]
    have lb := kb.sm n4 w7 t (nI v) ht
    have ok : OUT 2 I (su K (8 * 2 + 6) t (nI v)) := (ho.tr hK.2.2.2).su (by omega)
    have en : tn (upd f (15 + t) (nI v)) = tn f := by rw [tn, upd_ne (by omega)]; rfl
    have wg : WF (upd f (15 + t) (nI v)) := hf.sum ht hv1 (by omega)
    rw [mkD] at hr
    refine c_asTold (its := its) (n := n) lb wg (by rw [en]; exact hu) hn (by rw [ok _ (by omega)]; exact e2) (by rw [ok _ (by omega)]; exact e3) (fun l hl => by rw [ok _ (by omega)]; exact e7 l hl) (fun L lo => ?_)
    have ol := ok.tr lo
    rw [i1_0]
    unfold wp_X2_sumsOfFirst_59
    rw [nI_add]
    refine ⟨fun e => ?_, fun e => ?_⟩
    · rw [if_neg (by rw [e]; decide)] at hr
      exact ih (v + 1) x L (by omega) (by omega) hr ol
    · rw [if_pos (by simpa using e)] at hr
      exact ih (v + 1) _ L (by omega) (by omega) hr ol
theorem m_sf_loop {Q : Int32 → II → Prop} {k : Int32 → II → Prop} {t u n q a : Nat} {its : Nat → Int32} {r : Int32} (hf : WF f) (ht : t < 7) (e8 : f 8 = nI t) (hu : u < tn f) (hq : q < 8) (hn : a + n ≤ 40) (e7 : ∀ k, k < n → I 320 (40 * q + a + k) = its k) (hk : ∀ J, FRA I J → k r J) : ∀ (d v : Nat) (x : Int32) (J : II), 1 ≤ v → v + d = 31 → mkD (fun v => upd f (15 + t) (nI v)) u its n d v x = r → FRA I J → TNW J f → wp_X8_sums_68 Q k (d + 1) (nI u) (nI q) (nI a) (nI n) x (nI v) J := by
  have n4 := hf.n.2
  have w7 := hf.w.2
  have g8 : 8 < 1372 := by omega
  intro d
  induction d with
  | zero =>
    intro v x J _ hv hr ho hj
    rw [wp_X8_sums_68.eq_2]
    have c : 31 ≤ v := by omega
    simp (disch := omega) only [Bool.true_eq_false, Bool.false_eq_true, false_implies, true_implies, not_true_eq_false, not_false_eq_true, and_true, true_and, nIle, c]
    rw [mkD] at hr
    subst hr
    exact hk J ho
  | succ d ih =>
    intro v x J hv1 hv hr ho hj
    rw [wp_X8_sums_68.eq_2]
    have c : ¬ 31 ≤ v := by omega
    simp (disch := omega) only [Bool.true_eq_false, Bool.false_eq_true, false_implies, true_implies, not_true_eq_false, not_false_eq_true, and_true, true_and, nIle, c]
    refine m_layTried hf hj.1 (by omega) ?_
    have e0 : itF f 0 = f := rfl
    rw [e0]
    have j8 : pT J 1323 f 316 8 = nI t := by rw [(hj.pT f).1 8 (by omega), e8]
    have gx : 1338 + t < 1372 := by omega
    have ex : su (pT J 1323 f) 316 (1338 + t) (nI v) = pT J 1323 (upd f (15 + t) (nI v)) := by
      rw [show 1338 + t = 1323 + (15 + t) by omega, pT_set (by omega)]
    have en : tn (upd f (15 + t) (nI v)) = tn f := by rw [tn, upd_ne (by omega)]; rfl
    have wg : WF (upd f (15 + t) (nI v)) := hf.sum ht hv1 (by omega)
    rw [mkD] at hr
    simp (disch := omega) only [nIvp, nIcl, g8, j8, nI_add, gx, forall_eq, ex, Bool.true_eq_false, Bool.false_eq_true, false_implies, true_implies, not_true_eq_false, not_false_eq_true, and_true, true_and]
    refine m_isSo (its := its) wg (by rw [en]; exact hu) hq hn (fun l hl => ?_) (fun h => ?_)
    · rw [ho 320 _ (by unfold scr; omega)]; exact e7 l hl
    · have fr := FRA.pT J h
      rw [i1_0]
      unfold wp_X8_sums_120
      rw [nI_add]
      refine ⟨fun e => ?_, fun e => ?_⟩
      · rw [if_neg (by rw [e]; decide)] at hr
        rw [nI_0, Int32.or_zero]
        exact ih (v + 1) x _ (by omega) (by omega) hr (ho.tr fr) (hj.fr fr)
      · rw [if_pos (by simpa using e)] at hr
        exact ih (v + 1) _ _ (by omega) (by omega) hr (ho.tr fr) (hj.fr fr)
end WHO

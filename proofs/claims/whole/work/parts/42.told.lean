/-! ===== calls that set the status alone ===== -/
def stC (z : Option Int32) (J : II) : II := match z with
  | none => J
  | some z => su J 296 8 z
def stR (z : Option Int32) (J : II) : II := match z with
  | none => J
  | some z => su J 315 10 z
theorem FRA.sv {I J : II} (h : FRA I J) (a k : Nat) (v : Int32) : FRA (su I a k v) (su J a k v) := fun b l z => by
  rw [su_at, su_at, h b l z]
theorem FRA.suR {I J : II} (h : FRA I J) {a k : Nat} {v : Int32} (s : scr a k) : FRA I (su J a k v) := fun b l z => by
  rw [su2 (fun q => z (by rw [q.1, q.2]; exact s))]; exact h b l z
theorem SIM.qs {A B : II → (Int32 → II → Prop) → Prop} (h : ∀ I f, INV I → WF f → (tn f = 0 → tw f = 0) → BK True I 0 f → TNW I f → ∃ R z, (∀ Q, (∀ J, FRA I J → Q R (stC z J)) → A I Q) ∧ ∀ J Q, FRA (stC z I) J → TNW J f → (∀ K, FRA J K → Q R (stR z K)) → B J Q) : SIM A B := by
  intro I v
  obtain ⟨f, sz, lt, hh, p, c, m⟩ := v.ok
  have tw : TNW I f := ⟨m.1, m.2.2.1⟩
  obtain ⟨R, z, h1, h2⟩ := h I f v p.1 p.2.1 c.1 tw
  refine h1 _ (fun J hJ => ?_)
  cases z with
  | none => exact h2 J _ hJ (tw.fr hJ) (fun K hK => ⟨rfl, v.fr (hJ.tr hK)⟩)
  | some z =>
    have f1 : FRA (su I 296 8 z) (su J 296 8 z) := hJ.sv 296 8 z
    have t1 : TNW (su I 296 8 z) f := ⟨fun q hq => by rw [su_cell (by omega)]; exact tw.1 q hq, by rw [su_cell (by omega)]; exact tw.2⟩
    refine h2 _ _ f1 (t1.fr f1) (fun K hK => ⟨rfl, (v.st z).fr ((f1.tr hK).sv 315 10 z)⟩)
section TOLD
variable {s : Prop} {I : II} {f g : TW}
/-- what is told of what teller t has left fits, from turn k on -/
def soD (g : TW) (t : Nat) (its : Nat → Int32) : Nat → Nat → Bool
  | 0, _ => true
  | d + 1, k => decide (itF g (k + 1) (41 + t) = its k) && soD g t its d (k + 1)
theorem c_so_loop2 {Q : Int32 → II → Prop} {k59 k67 : II → Prop} {n t : Nat} {its : Nat → Int32} {r : Bool} (hg : WF g) (ht : t < tn g) (hn : n ≤ 12) (e2 : I 306 2 = nI n) (e3 : I 306 3 = nI t) (e7 : ∀ k, k < n → I 307 k = its k) (h1 : r = false → ∀ J, OUT 2 I J → k59 J) (h2 : r = true → ∀ J, OUT 2 I J → k67 J) : ∀ (d k : Nat) (J : II), k + d = n → soD g t its d k = r → BK s J 2 (itF g k) → OUT 2 I J → wp_X2_ghostIsAsTold_2 Q k59 k67 (d + 1) (nI k) J := by
  have n4 := hg.n.2
  have t4 : t < 4 := by omega
  intro d
  induction d with
  | zero =>
    intro k J hk hr hb ho
    rw [wp_X2_ghostIsAsTold_2.eq_2, ho 306 (by omega), e2]
    have c : n ≤ k := by omega
    simp (disch := omega) only [nIle, c, Bool.true_eq_false, Bool.false_eq_true, false_implies, true_implies, not_true_eq_false, not_false_eq_true, and_true, true_and]
    rw [soD] at hr
    exact h2 hr.symm J ho
  | succ d ih =>
    intro k J hk hr hb ho
    rw [wp_X2_ghostIsAsTold_2.eq_2, ho 306 (by omega), e2]
    have c : ¬ n ≤ k := by omega
    have c12 : ¬ 12 ≤ k := by omega
    have k12 : k < 12 := by omega
    simp (disch := omega) only [nIle, c, c12, Bool.true_eq_false, Bool.false_eq_true, false_implies, true_implies, not_true_eq_false, not_false_eq_true, and_true, true_and]
    refine c_passTurn hb (itF_wf hg k) (by rw [itF_n hg]; omega) (fun K kb ko => ?_)
    have ok := ho.tr ko
    have kb : BK s K 2 (itF g (k + 1)) := kb
    have e4 := (kb.2.1 t (by rw [itF_n hg]; exact ht)).2.2.2.1
    have hT' : hT (itF g (k + 1)) (nI t) = true := by rw [hT_nI (itF_wf hg _) (by omega), itF_n hg]; exact decide_eq_true ht
    rw [ok 306 (by omega), e3, c_hasTeller kb (itF_wf hg (k + 1)), hT', i1_0, ok 306 (by omega), e3, ok 307 (by omega)]
    rw [soD] at hr
    simp (disch := omega) only [Bool.true_eq_false, Bool.false_eq_true, false_implies, true_implies, not_true_eq_false, not_false_eq_true, and_true, true_and, nIvp, nIcl, t4, k12, e4, e7 k (by omega)]
    refine ⟨fun e => ?_, fun e => ?_⟩
    · rw [decide_eq_true e, Bool.true_and] at hr
      rw [nI_add]
      exact ih (k + 1) K (by omega) hr kb ok
    · rw [decide_eq_false e, Bool.false_and] at hr
      exact h1 hr.symm K ok
theorem c_asTold {Q : Int32 → II → Prop} {n t : Nat} {its : Nat → Int32} (h : BK s I 2 g) (hg : WF g) (ht : t < tn g) (hn : n ≤ 12) (e2 : I 306 2 = nI n) (e3 : I 306 3 = nI t) (e7 : ∀ k, k < n → I 307 k = its k) (hq : ∀ J, OUT 2 I J → Q (i1 (soD g t its n 0)) J) : wp_X2_ghostIsAsTold I Q := by
  unfold wp_X2_ghostIsAsTold
  refine ⟨_, c_so_loop2 (r := soD g t its n 0) (s := s) hg ht hn e2 e3 e7 (fun e J ho => ?_) (fun e J ho => ?_) n 0 I (by omega) rfl h (OUT.rf 2 I)⟩
  · have := hq J ho; rw [e] at this; exact this
  · have := hq J ho; rw [e] at this; exact this
theorem m_so_loop2 {Q : Int32 → II → Prop} {k45 k53 : II → Prop} {n t r a : Nat} {its : Nat → Int32} {w : Bool} (hg : WF g) (ht : t < tn g) (hr : r < 8) (hn : a + n ≤ 40) (e7 : ∀ k, k < n → I 320 (40 * r + a + k) = its k) (h1 : w = false → ∀ h, k45 (pT I 1323 h)) (h2 : w = true → ∀ h, k53 (pT I 1323 h)) : ∀ (d k : Nat), k + d = n → soD g t its d k = w → ∃ N, wp_X8_isSo_3 Q k45 k53 N (nI t) (nI r) (nI a) (nI n) (nI k) (pT I 1323 (itF g k)) := by
  have n4 := hg.n.2
  intro d
  induction d with
  | zero =>
    intro k hk hw
    refine ⟨1, ?_⟩
    rw [wp_X8_isSo_3.eq_2]
    have c : n ≤ k := by omega
    simp (disch := omega) only [nIle, c, Bool.true_eq_false, Bool.false_eq_true, false_implies, true_implies, not_true_eq_false, not_false_eq_true, and_true, true_and]
    exact h2 hw.symm _
  | succ d ih =>
    intro k hk hw
    rw [soD] at hw
    have c : ¬ n ≤ k := by omega
    have g1 : 1364 + t < 1372 := by omega
    have g2 : 40 * r + a + k < 320 := by omega
    have e4 : pT I 1323 (itF g (k + 1)) 316 (1364 + t) = itF g (k + 1) (41 + t) := by rw [show 1364 + t = 1323 + (41 + t) by omega, pT_get (by omega)]
    have e5 : pT I 1323 (itF g (k + 1)) 320 (40 * r + a + k) = its k := by rw [pT_oth (by omega)]; exact e7 k (by omega)
    by_cases e : itF g (k + 1) (41 + t) = its k
    · rw [decide_eq_true e, Bool.true_and] at hw
      obtain ⟨N, hN⟩ := ih (k + 1) (by omega) hw
      refine ⟨N + 1, ?_⟩
      rw [wp_X8_isSo_3.eq_2]
      simp (disch := omega) only [nIle, c, Bool.true_eq_false, Bool.false_eq_true, false_implies, true_implies, not_true_eq_false, not_false_eq_true, and_true, true_and]
      refine m_pass (by omega) (itF_wf hg k) ?_
      show _ ∧ _
      rw [show passF (itF g k) = itF g (k + 1) from rfl]
      simp (disch := omega) only [pk_mul, nI_add, nIvp, nIcl, g1, g2, e4, e5, e, Bool.true_eq_false, Bool.false_eq_true, false_implies, true_implies, not_true_eq_false, not_false_eq_true, and_true, true_and]
      exact hN
    · rw [decide_eq_false e, Bool.false_and] at hw
      refine ⟨1, ?_⟩
      rw [wp_X8_isSo_3.eq_2]
      simp (disch := omega) only [nIle, c, Bool.true_eq_false, Bool.false_eq_true, false_implies, true_implies, not_true_eq_false, not_false_eq_true, and_true, true_and]
      refine m_pass (by omega) (itF_wf hg k) ?_
      show _ ∧ _
      rw [show passF (itF g k) = itF g (k + 1) from rfl]
      simp (disch := omega) only [pk_mul, nI_add, nIvp, nIcl, g1, g2, e4, e5, e, Bool.true_eq_false, Bool.false_eq_true, false_implies, true_implies, not_true_eq_false, not_false_eq_true, and_true, true_and]
      exact h1 hw.symm _
theorem m_isSo {Q : Int32 → II → Prop} {n t r a : Nat} {its : Nat → Int32} (hg : WF g) (ht : t < tn g) (hr : r < 8) (hn : a + n ≤ 40) (e7 : ∀ k, k < n → I 320 (40 * r + a + k) = its k) (hq : ∀ h, Q (i1 (soD g t its n 0)) (pT I 1323 h)) : wp_X8_isSo (nI t) (nI r) (nI a) (nI n) (pT I 1323 g) Q := by
  unfold wp_X8_isSo
  refine m_so_loop2 (w := soD g t its n 0) hg ht hr hn e7 (fun e h => ?_) (fun e h => ?_) n 0 (by omega) rfl
  · have := hq h; rw [e] at this; exact this
  · have := hq h; rw [e] at this; exact this
/-- the sort of items' fault: 1 none there, 2 no such place -/
def fdN (I : II) (r : Nat) (i n : Int32) : Nat := if I 298 r = (-nI 1000000) then 1 else if spB (I 299 r).toNatClampNeg i n = true then 0 else 2
theorem c_findingOf {Q : Int32 → II → Prop} {r : Nat} {i n : Int32} (hR : ROW I) (hr : r < 8) (hq : Q (nI (fdN I r i n)) I) : wp_X4_findingOf (nI r) i n I Q := by
  unfold wp_X4_findingOf
  rw [c_isMissing hr, i1_0]
  unfold fdN at hq
  rcases hR r hr with ⟨a1, a2, a3⟩ | ⟨z, ln, hz, hl, b1, b2, b3, b4, b5⟩
  · rw [decide_eq_true a1]
    rw [if_pos a1] at hq
    simp only [Bool.true_eq_false, Bool.false_eq_true, false_implies, true_implies, not_true_eq_false, not_false_eq_true, and_true, true_and]; exact hq
  · have e : ¬ I 298 r = (-nI 1000000) := by rw [b1, nIneg (by omega) (by omega) (by omega)]; exact not_false
    rw [decide_eq_false e]
    rw [if_neg e, b3, nIcl (by omega)] at hq
    simp only [Bool.true_eq_false, Bool.false_eq_true, false_implies, true_implies, not_true_eq_false, not_false_eq_true, and_true, true_and]
    rw [c_hasSpan hr hz b3, i1_0]
    cases hs : spB z i n with
    | false => rw [hs, if_neg (by decide)] at hq; simp only [Bool.true_eq_false, Bool.false_eq_true, false_implies, true_implies, not_true_eq_false, not_false_eq_true, and_true, true_and]; exact hq
    | true => rw [hs, if_pos rfl] at hq; simp only [Bool.true_eq_false, Bool.false_eq_true, false_implies, true_implies, not_true_eq_false, not_false_eq_true, and_true, true_and]; exact hq
theorem m_noItems {Q : Int32 → II → Prop} {r : Nat} {i n : Int32} (hR : ROW I) (hr : r < 8) (h1 : fdN I r i n = 0 → Q (nI 0) I) (h2 : ∀ w, fdN I r i n = w + 1 → Q (-nI 1000010 - nI (w + 1)) (su I 315 10 (nI (w + 1)))) : wp_X8_noItems (nI r) i n I Q := by
  unfold wp_X8_noItems
  unfold fdN at h1 h2
  simp (disch := omega) only [nIvp, nIcl, hr, Bool.true_eq_false, Bool.false_eq_true, false_implies, true_implies, not_true_eq_false, not_false_eq_true, and_true, true_and]
  rcases hR r hr with ⟨a1, a2, a3⟩ | ⟨z, ln, hz, hl, b1, b2, b3, b4, b5⟩
  · rw [if_pos a1] at h1 h2
    rw [a3]
    refine ⟨fun e => absurd e (by decide), fun _ => ?_⟩
    rw [m_find]; exact h2 0 rfl
  · have e : ¬ I 298 r = (-nI 1000000) := by rw [b1, nIneg (by omega) (by omega) (by omega)]; exact not_false
    rw [if_neg e, b3, nIcl (by omega)] at h1 h2
    rw [b4]
    simp (disch := omega) only [nI0le, Bool.true_eq_false, Bool.false_eq_true, false_implies, true_implies, not_true_eq_false, not_false_eq_true, and_true, true_and]
    rw [m_isSpan hr hz b4, i1_0]
    cases hs : spB z i n with
    | false => rw [hs, if_neg (by decide)] at h2; simp only [Bool.true_eq_false, Bool.false_eq_true, false_implies, true_implies, not_true_eq_false, not_false_eq_true, and_true, true_and]; rw [m_find]; exact h2 1 rfl
    | true => rw [hs, if_pos rfl] at h1; simp only [Bool.true_eq_false, Bool.false_eq_true, false_implies, true_implies, not_true_eq_false, not_false_eq_true, and_true, true_and]; exact h1 rfl
theorem fdN_fr {I J : II} {r : Nat} {i n : Int32} (h : J 298 = I 298 ∧ J 299 = I 299) : fdN J r i n = fdN I r i n := by
  unfold fdN; rw [h.1, h.2]
theorem fdN_0 {r : Nat} {i : Int32} {n : Nat} (hR : ROW I) (hr : r < 8) (hn1 : n ≤ 12) (h : fdN I r i (nI n) = 0) : ∃ a z, i = nI a ∧ a + n ≤ z ∧ z ≤ 40 ∧ I 299 r = nI z ∧ ∀ k, k < z → I 300 (40 * r + k) = I 320 (40 * r + k) := by
  unfold fdN at h
  rcases hR r hr with ⟨a1, a2, a3⟩ | ⟨z, ln, hz, hl, b1, b2, b3, b4, b5⟩
  · rw [if_pos a1] at h; exact absurd h (by omega)
  · have e : ¬ I 298 r = (-nI 1000000) := by rw [b1, nIneg (by omega) (by omega) (by omega)]; exact not_false
    rw [if_neg e, b3, nIcl (by omega)] at h
    cases hs : spB z i (nI n) with
    | false => rw [hs, if_neg (by decide)] at h; exact absurd h (by omega)
    | true =>
      obtain ⟨a, b, e1, e2, e3⟩ := spB_of hz hs
      have hb : b = n := by
        have h2 : b < 2147483648 := by omega
        have := e2
        rw [nIeq (by omega) h2] at this
        omega
      subst hb
      exact ⟨a, z, e1, e3, hz, b3, b5⟩
theorem c_wa_loop {Q k : II → Prop} {r a n z : Nat} {I0 : II} (hr : r < 8) (hz : z ≤ 40) (ha : a + n ≤ z) (hn : n ≤ 12) (e9 : I0 299 r = nI z) (e2 : I0 306 2 = nI n) (hk : ∀ J, (∀ b l, ¬ (b = 307 ∧ l < n) → J b l = I0 b l) → (∀ l, l < n → J 307 l = I0 300 (40 * r + a + l)) → k J) : ∀ (d t : Nat) (J : II), t + d = n → (∀ b l, ¬ (b = 307 ∧ l < n) → J b l = I0 b l) → (∀ l, l < t → J 307 l = I0 300 (40 * r + a + l)) → wp_X2_watch_19 Q k (d + 1) (nI r) (nI a) (nI t) J := by
  intro d
  induction d with
  | zero =>
    intro t J ht h1 h2
    rw [wp_X2_watch_19.eq_2, h1 306 2 (by omega), e2]
    have c : n ≤ t := by omega
    have e : t = n := by omega
    simp (disch := omega) only [nIle, c, Bool.true_eq_false, Bool.false_eq_true, false_implies, true_implies, not_true_eq_false, not_false_eq_true, and_true, true_and]
    exact hk J h1 (fun l hl => h2 l (by omega))
  | succ d ih =>
    intro t J ht h1 h2
    rw [wp_X2_watch_19.eq_2, h1 306 2 (by omega), e2]
    have c : ¬ n ≤ t := by omega
    have t12 : t < 12 := by omega
    have j9 : J 299 r = nI z := by rw [h1 299 r (by omega)]; exact e9
    have sp : spB z (nI (a + t)) (nI 1) = true := by
      unfold spB
      rw [nI_toInt (by omega), nI_toInt (by omega), decide_eq_true (by rw [nI0le (by omega)]; trivial), decide_eq_true (by rw [nI0le (by omega)]; trivial), decide_eq_true (by omega)]
      rfl
    unfold wp_X4_itemAt
    simp (disch := omega) only [nIle, c, Bool.true_eq_false, Bool.false_eq_true, false_implies, true_implies, not_true_eq_false, not_false_eq_true, and_true, true_and, nI_add]
    rw [c_hasSpan hr hz j9, sp, i1_0]
    have em : nI r * nI 40 + nI (a + t) = nI (40 * r + a + t) := by rw [pk_mul, nI_add]; congr 1; omega
    have g3 : 40 * r + a + t < 320 := by omega
    have e3 : J 300 (40 * r + a + t) = I0 300 (40 * r + a + t) := h1 300 _ (by omega)
    simp (disch := omega) only [Bool.true_eq_false, Bool.false_eq_true, false_implies, true_implies, not_true_eq_false, not_false_eq_true, and_true, true_and, em, nIvp, nIcl, g3, t12, e3, forall_eq]
    refine ih (t + 1) _ (by omega) (fun b l z => ?_) (fun l hl => ?_)
    · rw [su2 (by omega)]; exact h1 b l z
    · by_cases e : l = t
      · subst e; rw [su_eq]
      · rw [su_slot e]; exact h2 l (by omega)
theorem c_watch {Q : II → Prop} {r a n z : Nat} {t : Nat} (hr : r < 8) (hz : z ≤ 40) (ha : a + n ≤ z) (hn : n ≤ 12) (e9 : I 299 r = nI z) (hq : ∀ J, FRA I J → (∀ b, b ≠ 306 → b ≠ 307 → J b = I b) → J 306 2 = nI n → J 306 3 = nI t → (∀ l, l < n → J 307 l = I 300 (40 * r + a + l)) → Q J) : wp_X2_watch (nI t) (nI r) (nI a) (nI n) I Q := by
  unfold wp_X2_watch
  have em : (if nI 12 < nI n then nI 12 else nI n) = nI n := by rw [if_neg (by rw [nIlt (by omega) (by omega)]; omega)]
  simp only [forall_eq, em]
  refine ⟨n + 1, ?_⟩
  have ex : ∀ J : II, (∀ b l, ¬ (b = 307 ∧ l < n) → J b l = su (su I 306 3 (nI t)) 306 2 (nI n) b l) → (∀ b, b ≠ 306 → b ≠ 307 → J b = I b) := fun J h b b1 b2 => funext fun l => by rw [h b l (by omega), su_cell b1, su_cell b1]
  refine c_wa_loop (I0 := su (su I 306 3 (nI t)) 306 2 (nI n)) hr hz ha hn (by rw [su_cell (by omega), su_cell (by omega)]; exact e9) (su_eq _ _ _ _) (fun J h1 h2 => ?_) n 0 _ (by omega) (fun _ _ _ => rfl) (fun l hl => absurd hl (by omega))
  refine hq J (fun b l z => ?_) (ex J h1) ?_ ?_ (fun l hl => ?_)
  · have := ex J h1 b (fun e => z (by unfold scr; omega)) (fun e => z (by unfold scr; omega))
    rw [this]
  · rw [h1 306 2 (by omega), su_eq]
  · rw [h1 306 3 (by omega), su_slot (by omega), su_eq]
  · rw [h2 l hl, su_cell (by omega), su_cell (by omega)]
end TOLD

section ASKM
variable {I : II} {f : TW} {l : List Nat}
theorem trM_316 (hI : ∀ q, q < 49 → I 316 q = f q) (l : List Nat) : ∀ q, q < 49 → trX 315 12 322 I l 316 q = f q := fun q hq => by rw [trX_oth (by omega) (by omega)]; exact hI q hq
theorem m_lentSize {t : Nat} (hI : ∀ q, q < 49 → I 316 q = f q) (ht : t < 4) {Q : Int32 → II → Prop} (hl : l.length ≤ 15) (hq : Q (f (37 + t)) (trX 315 12 322 I (l ++ [10]))) : wp_X8_lentSize (nI t) (trX 315 12 322 I l) Q := by
  unfold wp_X8_lentSize
  refine m_lnum (by omega) ?_
  have e := trM_316 hI (l ++ [10]) (37 + t) (by omega)
  have g : 37 + t < 1372 := by omega
  simp (disch := omega) only [nI_add, nIvp, nIcl, g, e, Bool.true_eq_false, Bool.false_eq_true, false_implies, true_implies, not_true_eq_false, not_false_eq_true, and_true, true_and]
  exact hq
theorem m_lentMark {t : Nat} {Q : Int32 → II → Prop} (hl : l.length ≤ 15) (hq : Q (nI t) (trX 315 12 322 I (l ++ [20]))) : wp_X8_lentMark (nI t) (trX 315 12 322 I l) Q := by
  unfold wp_X8_lentMark
  exact m_lnum (by omega) hq
theorem m_carefulMark {t : Nat} (hI : ∀ q, q < 49 → I 316 q = f q) (ht : t < 4) {Q : Int32 → II → Prop} (hl : l.length ≤ 14) (hq : Q (nI t + f (41 + t)) (trX 315 12 322 I (l ++ [21, 20]))) : wp_X8_carefulMark (nI t) (trX 315 12 322 I l) Q := by
  unfold wp_X8_carefulMark
  refine m_lnum (by omega) (m_lentMark (by rw [List.length_append, List.length_singleton]; omega) ?_)
  rw [List.append_assoc]
  have e := trM_316 hI (l ++ ([21] ++ [20])) (41 + t) (by omega)
  have g : 41 + t < 1372 := by omega
  simp (disch := omega) only [nI_add, nIvp, nIcl, g, e, Bool.true_eq_false, Bool.false_eq_true, false_implies, true_implies, not_true_eq_false, not_false_eq_true, and_true, true_and]
  exact hq
theorem m_mark {t k : Nat} (hI : ∀ q, q < 49 → I 316 q = f q) (ht : t < 4) (ek : f (29 + t) = nI k) (hk : k ≤ 5) {Q : Int32 → II → Prop} (hl : l.length ≤ 13) (hq : Q (mkV f t k) (trX 315 12 322 I (l ++ mkL k))) : wp_X8_mark (nI t) (trX 315 12 322 I l) Q := by
  unfold wp_X8_mark
  have e := trM_316 hI l (29 + t) (by omega)
  rw [ek] at e
  have g : 29 + t < 1372 := by omega
  simp (disch := omega) only [nI_add, nIvp, nIcl, g, e, Bool.true_eq_false, Bool.false_eq_true, false_implies, true_implies, not_true_eq_false, not_false_eq_true, and_true, true_and, nIeq]
  unfold mkV mkL at hq
  refine ⟨fun k2 => ?_, fun k3 => ?_, fun k2 k3 => ?_⟩
  · rw [if_pos k2, if_pos k2] at hq
    refine m_lnum (by omega) (m_carefulMark hI ht (by rw [List.length_append, List.length_singleton]; omega) ?_)
    rw [List.append_assoc]; exact hq
  · rw [if_neg (by omega), if_pos k3, if_neg (by omega), if_pos k3] at hq
    refine m_lnum (by omega) (m_carefulMark hI ht (by rw [List.length_append, List.length_singleton]; omega) ?_)
    rw [List.append_assoc]; exact hq
  · rw [if_neg k2, if_neg k3, if_neg k2, if_neg k3] at hq
    exact m_carefulMark hI ht (by omega) hq
theorem m_carefulSize {t k : Nat} (hI : ∀ q, q < 49 → I 316 q = f q) (ht : t < 4) (ek : f (29 + t) = nI k) (hk : k ≤ 5) {Q : Int32 → II → Prop} (hl : l.length ≤ 11) (hq : Q (f (37 + t) + mkV f t k) (trX 315 12 322 I (l ++ ([11, 10] ++ mkL k)))) : wp_X8_carefulSize (nI t) (trX 315 12 322 I l) Q := by
  unfold wp_X8_carefulSize
  refine m_lnum (by omega) (m_lentSize hI ht (by rw [List.length_append, List.length_singleton]; omega) ?_)
  refine m_mark hI ht ek hk (by rw [List.length_append, List.length_append, List.length_singleton, List.length_singleton]; omega) ?_
  rw [List.append_assoc, List.append_assoc]; exact hq
theorem m_youngSize {t : Nat} (hI : ∀ q, q < 49 → I 316 q = f q) (ht : t < 4) {Q : Int32 → II → Prop} (hl : l.length ≤ 14) (hq : Q (f (37 + t) - nI 100) (trX 315 12 322 I (l ++ [13, 10]))) : wp_X8_youngSize (nI t) (trX 315 12 322 I l) Q := by
  unfold wp_X8_youngSize
  refine m_lnum (by omega) (m_lentSize hI ht (by rw [List.length_append, List.length_singleton]; omega) ?_)
  rw [List.append_assoc]; exact hq
theorem m_sizeOf {t k : Nat} (hI : ∀ q, q < 49 → I 316 q = f q) (ht : t < 4) (ek : f (29 + t) = nI k) (hk : k ≤ 5) {Q : Int32 → II → Prop} (hl : l.length ≤ 10) (hq : Q (szV f t k) (trX 315 12 322 I (l ++ szL k))) : wp_X8_sizeOf (nI t) (trX 315 12 322 I l) Q := by
  unfold wp_X8_sizeOf wp_X8_sizeOf_73
  have e := trM_316 hI l (29 + t) (by omega)
  rw [ek] at e
  have g : 29 + t < 1372 := by omega
  simp (disch := omega) only [nI_add, nIvp, nIcl, g, e, Bool.true_eq_false, Bool.false_eq_true, false_implies, true_implies, not_true_eq_false, not_false_eq_true, and_true, true_and, nIeq]
  unfold szV szL at hq
  refine ⟨fun k2 => ?_, fun k3 => ?_, fun k4 => ?_, fun k5 => ?_, fun k2 k3 k4 k5 => ?_⟩
  · rw [if_pos k2, if_pos k2] at hq
    refine m_lnum (by omega) (m_carefulSize hI ht ek hk (by rw [List.length_append, List.length_singleton]; omega) ?_)
    rw [List.append_assoc]; exact hq
  · rw [if_neg (by omega), if_neg (by omega), if_neg (by omega), if_neg (by omega), if_neg (by omega), if_neg (by omega)] at hq
    exact m_carefulSize hI ht ek hk (by omega) hq
  · rw [if_neg (by omega), if_pos k4, if_neg (by omega), if_pos k4] at hq
    exact m_youngSize hI ht (by omega) hq
  · rw [if_neg (by omega), if_neg (by omega), if_pos k5, if_neg (by omega), if_neg (by omega), if_pos k5] at hq
    refine m_lnum (by omega) (m_youngSize hI ht (by rw [List.length_append, List.length_singleton]; omega) ?_)
    rw [List.append_assoc]; exact hq
  · rw [if_neg k2, if_neg k4, if_neg k5, if_neg k2, if_neg k4, if_neg k5] at hq
    exact m_carefulSize hI ht ek hk (by omega) hq
theorem m_youngMark {t k : Nat} (hI : ∀ q, q < 49 → I 316 q = f q) (ht : t < 4) (ek : f (29 + t) = nI k) (hk : k ≤ 5) {Q : Int32 → II → Prop} (hl : l.length ≤ 8) (hq : Q (nI t - szV f t k) (trX 315 12 322 I (l ++ ([23, 20] ++ szL k)))) : wp_X8_youngMark (nI t) (trX 315 12 322 I l) Q := by
  unfold wp_X8_youngMark
  refine m_lnum (by omega) (m_lentMark (by rw [List.length_append, List.length_singleton]; omega) ?_)
  refine m_sizeOf hI ht ek hk (by rw [List.length_append, List.length_append, List.length_singleton, List.length_singleton]; omega) ?_
  rw [List.append_assoc, List.append_assoc]; exact hq
theorem INV.ask (v : INV I) (hl : l.length ≤ 16) : INV (trX 315 12 322 (trX 313 1 314 I l) l) := by
  have e : ∀ a k, ¬ (a = 313 ∧ k = 1) → a ≠ 314 → ¬ (a = 315 ∧ k = 12) → a ≠ 322 → trX 315 12 322 (trX 313 1 314 I l) l a k = I a k := fun a k h1 h2 h3 h4 => by rw [trX_oth h3 h4, trX_oth h1 h2]
  have ec : ∀ a, a ≠ 313 → a ≠ 314 → a ≠ 315 → a ≠ 322 → trX 315 12 322 (trX 313 1 314 I l) l a = I a := fun a h1 h2 h3 h4 => funext fun k => e a k (fun q => h1 q.1) h2 (fun q => h3 q.1) h4
  obtain ⟨f, sz, lt, h, p, c, m, ⟨o1, o2⟩, i, r, t, ms, k⟩ := v
  refine ⟨f, sz, lt, h, p, c.fr (fun q hq => ec q (by omega) (by omega) (by omega) (by omega)), m.fr p.2.2.1 (fun k hk => e _ _ (by omega) (by omega) (by omega) (by omega)) ⟨e _ _ (by omega) (by omega) (by omega) (by omega), e _ _ (by omega) (by omega) (by omega) (by omega)⟩, ⟨o1.fr ⟨ec _ (by omega) (by omega) (by omega) (by omega), ec _ (by omega) (by omega) (by omega) (by omega)⟩, o2.fr ⟨ec _ (by omega) (by omega) (by omega) (by omega), ec _ (by omega) (by omega) (by omega) (by omega)⟩⟩, i.fr (fun q hq => ec q (by omega) (by omega) (by omega) (by omega)) (fun k h1 h2 => e _ _ (by omega) (by omega) (by omega) (by omega)) (fun z => by rw [e 315 1 (by omega) (by omega) (by omega) (by omega)]; exact z), r.fr (fun q hq => ec q (by omega) (by omega) (by omega) (by omega)), t.fr ⟨ec _ (by omega) (by omega) (by omega) (by omega), ec _ (by omega) (by omega) (by omega) (by omega)⟩ ⟨e _ _ (by omega) (by omega) (by omega) (by omega), e _ _ (by omega) (by omega) (by omega) (by omega)⟩, ms.fr ⟨e _ _ (by omega) (by omega) (by omega) (by omega), e _ _ (by omega) (by omega) (by omega) (by omega), e _ _ (by omega) (by omega) (by omega) (by omega), e _ _ (by omega) (by omega) (by omega) (by omega)⟩, l.length, hl, ?_, ?_, fun i hi => ?_⟩
  · rw [trX_oth (by omega) (by omega), trX_len]
  · rw [trX_len]
  · rw [trX_oth (by omega) (by omega)]
    unfold trX
    rw [if_neg (by omega), if_pos ⟨rfl, hi⟩, if_neg (by omega), if_pos ⟨rfl, hi⟩]
end ASKM
theorem s_ask (x w : Int32) : SIM (wp_X7_ask x w) (wp_X8_ask x w) := by
  intro I v
  obtain ⟨f, sz, lt, h, p, c, m⟩ := v.ok
  have hf := p.1
  have cb := c.1
  have n4 := hf.n.2
  unfold wp_X7_ask
  by_cases ha : hT f x = true ∧ inB 0 1 w = true
  · obtain ⟨e1, e2⟩ := ha
    obtain ⟨t, ht, rfl⟩ := hT_of hf e1
    obtain ⟨n, -, hn, rfl⟩ := inB_of (by omega) (by omega) e2
    have t4 : t < 4 := by omega
    obtain ⟨k, h1, h5, ek⟩ := (hf.te ht).1
    rw [c_hasTeller cb hf, e1, i1_0, k_isChoice, e2, i1_0]
    simp only [Bool.true_eq_false, Bool.false_eq_true, false_implies, true_implies, not_true_eq_false, not_false_eq_true, and_true, true_and]
    unfold wp_X0_begin
    rw [trX_0 (n := 314)]
    simp only [forall_eq]
    have mdl : ∀ (z : Int32) (l : List Nat), l.length ≤ 16 → (n = 0 → z = szV f t k ∧ l = szL k) → (n = 1 → (4 ≤ k → z = nI t - szV f t k ∧ l = [23, 20] ++ szL k) ∧ (k ≤ 3 → z = mkV f t k ∧ l = mkL k)) → wp_X8_ask (nI t) (nI n) (trX 313 1 314 I l) (fun r' K => z = r' ∧ INV K) := by
      intro z l hl z0 z1
      have hI : ∀ q, q < 49 → trX 313 1 314 I l 316 q = f q := fun q hq => by rw [trX_oth (by omega) (by omega)]; exact m.1 q hq
      unfold wp_X8_ask
      rw [m_isTeller hI hf, e1, i1_0, m_inE _ _ _ _ _ (by omega) (by omega), e2, i1_0]
      simp only [Bool.true_eq_false, Bool.false_eq_true, false_implies, true_implies, not_true_eq_false, not_false_eq_true, and_true, true_and]
      rw [trX_0 (n := 322)]
      simp only [forall_eq]
      rw [nIe0 (by omega)]
      have fin := v.ask hl
      refine ⟨fun q => ?_, fun q => ?_⟩
      · have q1 : n = 1 := by omega
        obtain ⟨za, zb⟩ := z1 q1
        refine m_isOf t4 h5 (by rw [trM_316 hI [] (29 + t) (by omega), ek]) ?_
        have kk : kof k (nI 4) = decide (4 ≤ k) := by
          have e : k = 1 ∨ k = 2 ∨ k = 3 ∨ k = 4 ∨ k = 5 := by omega
          rcases e with rfl | rfl | rfl | rfl | rfl <;> decide
        rw [kk]
        refine gd (fun z4 => ?_) (fun z4 => ?_)
        · obtain ⟨rfl, rfl⟩ := zb (by have := z4; simp at this; omega)
          exact m_mark hI t4 ek h5 (by simp) ⟨rfl, fin⟩
        · obtain ⟨rfl, rfl⟩ := za (by simpa using z4)
          exact m_youngMark hI t4 ek h5 (by simp) ⟨rfl, fin⟩
      · obtain ⟨rfl, rfl⟩ := z0 q
        exact m_sizeOf hI t4 ek h5 (by simp) ⟨rfl, fin⟩
    have lens : ∀ k, (mkL k).length ≤ 3 := fun k => by
      unfold mkL
      split
      · simp
      · split <;> simp
    have lsz : ∀ k, (szL k).length ≤ 6 := fun k => by
      unfold szL
      have := lens k
      split
      · rw [List.length_append]; simp; omega
      · split
        · simp
        · split
          · simp
          · rw [List.length_append]; simp; omega
    have en : n = 0 ∨ n = 1 := by omega
    rcases en with rfl | rfl
    · exact c_szA (l := []) (d := 5) cb hf ht ek h1 h5 (by omega) (by simp) (mdl _ _ (by have := lsz k; simp; omega) (fun _ => ⟨rfl, rfl⟩) (fun z => absurd z (by omega)))
    · by_cases k3 : k ≤ 3
      · exact c_mkA (l := []) (d := 7) cb hf ht ek h1 k3 (by omega) (by simp) (mdl _ _ (by have := lens k; simp; omega) (fun z => absurd z (by omega)) (fun _ => ⟨fun z => by omega, fun _ => ⟨rfl, rfl⟩⟩))
      · refine c_ansOf (b := bMk k) (trX_bk cb []) hf ht ek h1 h5 (Or.inr ⟨rfl, rfl⟩) ?_
        have eb : bMk k = 23 := by
          have e : k = 4 ∨ k = 5 := by omega
          rcases e with rfl | rfl <;> decide
        rw [eb]
        exact r_23 (l := []) (d := 4) cb hf ht (by omega) ek h1 h5 (by simp) (mdl _ _ (by have := lsz k; simp; omega) (fun z => absurd z (by omega)) (fun _ => ⟨fun _ => ⟨rfl, rfl⟩, fun z => by omega⟩))
  · have bad : wp_X8_ask x w I (fun r' K => -nI 1000001 = r' ∧ INV K) := by
      unfold wp_X8_ask
      rw [m_isTeller m.1 hf]
      refine gd (fun _ => ⟨rfl, v⟩) (fun e1 => ?_)
      rw [m_inE _ _ _ _ _ (by omega) (by omega)]
      exact gd' (fun _ => ⟨rfl, v⟩) (fun e2 => absurd ⟨e1, e2⟩ ha)
    rw [c_hasTeller cb hf]
    refine gd (fun _ => bad) (fun e1 => ?_)
    rw [k_isChoice]
    exact gd' (fun _ => bad) (fun e2 => absurd ⟨e1, e2⟩ ha)

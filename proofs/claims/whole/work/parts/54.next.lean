/-! ===== the reference's next line ===== -/
def LN (I : II) (l : List Nat) : Prop := ∀ i, i < l.length → I 323 i = nI (l.getD i 0)
theorem getD_lt {l : List Nat} (h : ∀ p, p ∈ l → p < 7) (i : Nat) : l.getD i 0 < 7 := by
  rw [List.getD_eq_getElem?_getD]
  by_cases c : i < l.length
  · rw [List.getElem?_eq_getElem c]; exact h _ (List.getElem_mem c)
  · rw [List.getElem?_eq_none (by omega)]; decide
section NEXT
variable {I : II} {l : List Nat}
theorem LN.set (h : LN I l) (i v : Nat) : LN (su I 323 i (nI v)) (l.set i v) := by
  intro q hq
  rw [List.length_set] at hq
  rw [List.getD_eq_getElem?_getD, List.getElem?_set]
  by_cases e : i = q
  · subst e; rw [su_eq, if_pos rfl, if_pos hq]; rfl
  · rw [su_slot (by omega), if_neg e, ← List.getD_eq_getElem?_getD]; exact h q hq
theorem m_swapL {Q : II → Prop} {a b : Nat} (h : LN I l) (h7 : l.length ≤ 7) (ha : a < l.length) (hb : b < l.length) (hq : ∀ J, LN J ((l.set a (l.getD b 0)).set b (l.getD a 0)) → (∀ c, c ≠ 323 → J c = I c) → Q J) : wp_X8_swapLine (nI a) (nI b) I Q := by
  unfold wp_X8_swapLine
  have a7 : a < 7 := by omega
  have b7 : b < 7 := by omega
  simp (disch := omega) only [nIvp, nIcl, a7, b7, Bool.true_eq_false, Bool.false_eq_true, false_implies, true_implies, not_true_eq_false, not_false_eq_true, and_true, true_and, forall_eq, h a ha, h b hb]
  exact hq _ ((h.set a _).set b _) (fun c hc => by rw [su_cell hc, su_cell hc])
theorem m_rv_loop {Q : Int32 → II → Prop} {k : II → Prop} {I0 : II} : ∀ (m : Nat) (X M Y : List Nat) (J : II), M.length ≤ 2 * m + 1 → 1 ≤ X.length → (X ++ M ++ Y).length ≤ 7 → LN J (X ++ M ++ Y) → (∀ c, c ≠ 323 → J c = I0 c) → (∀ K, LN K (X ++ M.reverse ++ Y) → (∀ c, c ≠ 323 → K c = I0 c) → k K) → wp_X8_nextLine_95 Q k (m + 1) (nI X.length) (nI (X.length + M.length) - nI 1) J := by
  intro m
  induction m with
  | zero =>
    intro X M Y J hm hX h7 hl hf hk
    rw [wp_X8_nextLine_95.eq_2, nIsub (by omega)]
    have c : X.length + M.length - 1 ≤ X.length := by omega
    simp only [List.length_append] at h7
    simp (disch := omega) only [nIle, c, Bool.true_eq_false, Bool.false_eq_true, false_implies, true_implies, not_true_eq_false, not_false_eq_true, and_true, true_and]
    have : M.reverse = M := by
      cases M with
      | nil => rfl
      | cons a M =>
        cases M with
        | nil => rfl
        | cons b M => simp at hm
    rw [this] at hk
    exact hk J hl hf
  | succ m ih =>
    intro X M Y J hm hX h7 hl hf hk
    rw [wp_X8_nextLine_95.eq_2, nIsub (by omega)]
    have h7' := h7
    simp only [List.length_append] at h7'
    by_cases c : X.length + M.length - 1 ≤ X.length
    · simp (disch := omega) only [nIle, c, Bool.true_eq_false, Bool.false_eq_true, false_implies, true_implies, not_true_eq_false, not_false_eq_true, and_true, true_and]
      have : M.reverse = M := by
        cases M with
        | nil => rfl
        | cons a M =>
          cases M with
          | nil => rfl
          | cons b M => simp at c; omega
      rw [this] at hk
      exact hk J hl hf
    · cases M with
      | nil => simp at c
      | cons u M =>
        rcases List.eq_nil_or_concat M with e | ⟨N, v, e⟩
        · subst e; simp at c
        · subst e
          simp only [List.concat_eq_append, List.length_cons, List.length_append, List.length_nil] at c hm h7' ⊢
          have eb : X.length + (N.length + (0 + 1) + 1) - 1 = (X ++ u :: N).length := by rw [List.length_append, List.length_cons]; omega
          have e1 : X ++ u :: (N ++ [v]) ++ Y = X ++ u :: (N ++ v :: Y) := by simp
          have e2 : X ++ u :: (N ++ v :: Y) = (X ++ u :: N) ++ v :: Y := by simp
          have g1 : (X ++ u :: (N ++ [v]) ++ Y).getD X.length 0 = u := by rw [e1]; exact getA _ _ _
          have g2 : (X ++ u :: (N ++ [v]) ++ Y).getD (X ++ u :: N).length 0 = v := by rw [e1, e2]; exact getA _ _ _
          have hl' : LN J (X ++ u :: (N ++ [v]) ++ Y) := by rw [List.concat_eq_append] at hl; exact hl
          have len : (X ++ u :: (N ++ [v]) ++ Y).length = X.length + (N.length + 2) + Y.length := by simp; omega
          simp (disch := omega) only [nIle, c, Bool.true_eq_false, Bool.false_eq_true, false_implies, true_implies, not_true_eq_false, not_false_eq_true, and_true, true_and]
          rw [eb]
          refine m_swapL hl' (by rw [len]; omega) (by rw [len]; omega) (by rw [len]; simp; omega) (fun K kl kf => ?_)
          rw [g1, g2, e1, setA] at kl
          have e3 : X ++ v :: (N ++ v :: Y) = (X ++ v :: N) ++ v :: Y := by simp
          have ln : (X ++ u :: N).length = (X ++ v :: N).length := by simp
          rw [e3, ln, setA] at kl
          have e4 : (X ++ v :: N) ++ u :: Y = (X ++ [v]) ++ N ++ (u :: Y) := by simp
          rw [e4] at kl
          have key := ih (X ++ [v]) N (u :: Y) K (by omega) (by simp) (by simp; omega) kl (fun c hc => (kf c hc).trans (hf c hc)) (fun L ll lf => hk L (by
            have : X ++ (u :: (N.concat v)).reverse ++ Y = (X ++ [v]) ++ N.reverse ++ (u :: Y) := by simp
            rw [this]; exact ll) lf)
          rw [List.length_append, List.length_singleton] at key
          have e5 : nI (X ++ u :: N).length + -nI 1 = nI (X.length + 1 + N.length) - nI 1 := by
            rw [← Int32.sub_eq_add_neg]
            congr 2
            simp; omega
          rw [nI_add, e5]
          exact key
theorem m_k_loop {Q : Int32 → II → Prop} {k : Int32 → II → Prop} {lo : Nat} (h : LN I l) (h7 : l.length ≤ 7) (hm : ∀ p, p ∈ l → p < 7) (h1 : l.getD lo 0 ≤ l.getD (lo + 1) 0) (h2 : ∀ i, lo < i → i + 1 < l.length → l.getD (i + 1) 0 < l.getD i 0) (hk : k (nI lo) I) : ∀ (d i : Nat), i = lo + d → i + 1 < l.length → ∃ N, wp_X8_nextLine_10 Q k N (nI i) I := by
  intro d
  induction d with
  | zero =>
    intro i hi hl
    refine ⟨1, ?_⟩
    rw [wp_X8_nextLine_10.eq_2, nI_add]
    have a7 : i < 7 := by omega
    have b7 : i + 1 < 7 := by omega
    have c1 := getD_lt hm i
    have c2 := getD_lt hm (i + 1)
    have e : i = lo := by omega
    have c : l.getD i 0 ≤ l.getD (i + 1) 0 := by rw [e]; exact h1
    simp (disch := omega) only [nIlt0, Bool.true_eq_false, Bool.false_eq_true, false_implies, true_implies, not_true_eq_false, not_false_eq_true, and_true, true_and, nIvp, nIcl, a7, b7, h i (by omega), h (i + 1) (by omega), nIle, c]
    rw [e]; exact hk
  | succ d ih =>
    intro i hi hl
    obtain ⟨N, hN⟩ := ih (i - 1) (by omega) (by omega)
    refine ⟨N + 1, ?_⟩
    rw [wp_X8_nextLine_10.eq_2, nI_add]
    have a7 : i < 7 := by omega
    have b7 : i + 1 < 7 := by omega
    have c1 := getD_lt hm i
    have c2 := getD_lt hm (i + 1)
    have hh := h2 i (by omega) hl
    have c : ¬ l.getD i 0 ≤ l.getD (i + 1) 0 := by omega
    have ed : nI i + -nI 1 = nI (i - 1) := by
      have := nI_dec (d := i - 1)
      rwa [show i - 1 + 1 = i by omega] at this
    simp (disch := omega) only [nIlt0, Bool.true_eq_false, Bool.false_eq_true, false_implies, true_implies, not_true_eq_false, not_false_eq_true, and_true, true_and, nIvp, nIcl, a7, b7, h i (by omega), h (i + 1) (by omega), nIle, c, ed]
    exact hN
theorem m_k_end {Q : Int32 → II → Prop} {k : Int32 → II → Prop} (h : LN I l) (h7 : l.length ≤ 7) (hm : ∀ p, p ∈ l → p < 7) (h2 : ∀ i, i + 1 < l.length → l.getD (i + 1) 0 < l.getD i 0) (hk : k (-nI 1) I) : ∀ (i : Nat), i + 1 < l.length → ∃ N, wp_X8_nextLine_10 Q k N (nI i) I := by
  intro i
  induction i with
  | zero =>
    intro hl
    refine ⟨2, ?_⟩
    rw [wp_X8_nextLine_10.eq_2, wp_X8_nextLine_10.eq_2]
    have c1 := getD_lt hm 0
    have c2 := getD_lt hm 1
    have hh := h2 0 hl
    have c : ¬ l.getD 0 0 ≤ l.getD (0 + 1) 0 := by omega
    have e1 : nI 0 + -nI 1 = -nI 1 := by decide
    have e2 : (-nI 1 : Int32) < 0 := by decide
    have a7 : 0 < 7 := by omega
    have b7 : 0 + 1 < 7 := by omega
    rw [nI_add]
    simp (disch := omega) only [nIlt0, Bool.true_eq_false, Bool.false_eq_true, false_implies, true_implies, not_true_eq_false, not_false_eq_true, and_true, true_and, nIvp, nIcl, a7, b7, h 0 (by omega), h (0 + 1) (by omega), nIle, c, e1, e2]
    exact hk
  | succ i ih =>
    intro hl
    obtain ⟨N, hN⟩ := ih (by omega)
    refine ⟨N + 1, ?_⟩
    rw [wp_X8_nextLine_10.eq_2, nI_add, nI_dec]
    have a7 : i + 1 < 7 := by omega
    have b7 : i + 1 + 1 < 7 := by omega
    have c1 := getD_lt hm (i + 1)
    have c2 := getD_lt hm (i + 1 + 1)
    have hh := h2 (i + 1) hl
    have c : ¬ l.getD (i + 1) 0 ≤ l.getD (i + 1 + 1) 0 := by omega
    simp (disch := omega) only [nIlt0, Bool.true_eq_false, Bool.false_eq_true, false_implies, true_implies, not_true_eq_false, not_false_eq_true, and_true, true_and, nIvp, nIcl, a7, b7, h (i + 1) (by omega), h (i + 1 + 1) (by omega), nIle, c]
    exact hN
theorem m_j_loop {Q : Int32 → II → Prop} {k : Int32 → Int32 → II → Prop} {lo js : Nat} (h : LN I l) (h7 : l.length ≤ 7) (hm : ∀ p, p ∈ l → p < 7) (hlo : lo < l.length) (h1 : l.getD lo 0 ≤ l.getD js 0) (h2 : ∀ i, js < i → i < l.length → l.getD i 0 < l.getD lo 0) (hk : k (nI lo) (nI js) I) : ∀ (d i : Nat), i = js + d → i < l.length → ∃ N, wp_X8_nextLine_53 Q k N (nI lo) (nI i) I := by
  have l7 : lo < 7 := by omega
  have c0 := getD_lt hm lo
  intro d
  induction d with
  | zero =>
    intro i hi hl
    refine ⟨1, ?_⟩
    rw [wp_X8_nextLine_53.eq_2]
    have a7 : i < 7 := by omega
    have c1 := getD_lt hm i
    have e : i = js := by omega
    have c : l.getD lo 0 ≤ l.getD i 0 := by rw [e]; exact h1
    simp (disch := omega) only [Bool.true_eq_false, Bool.false_eq_true, false_implies, true_implies, not_true_eq_false, not_false_eq_true, and_true, true_and, nIvp, nIcl, a7, l7, h i hl, h lo hlo, nIle, c]
    rw [e]; exact hk
  | succ d ih =>
    intro i hi hl
    obtain ⟨N, hN⟩ := ih (i - 1) (by omega) (by omega)
    refine ⟨N + 1, ?_⟩
    rw [wp_X8_nextLine_53.eq_2]
    have a7 : i < 7 := by omega
    have c1 := getD_lt hm i
    have hh := h2 i (by omega) hl
    have c : ¬ l.getD lo 0 ≤ l.getD i 0 := by omega
    have ed : nI i + -nI 1 = nI (i - 1) := by
      have := nI_dec (d := i - 1)
      rwa [show i - 1 + 1 = i by omega] at this
    simp (disch := omega) only [Bool.true_eq_false, Bool.false_eq_true, false_implies, true_implies, not_true_eq_false, not_false_eq_true, and_true, true_and, nIvp, nIcl, a7, l7, h i hl, h lo hlo, nIle, c, ed]
    exact hN
theorem m_next_some {Q : Int32 → II → Prop} {b : List Nat} (h : LN I l) (h7 : l.length ≤ 7) (hm : ∀ p, p ∈ l → p < 7) (e7 : I 316 7 = nI l.length) (hx : NX l b) (hq : ∀ J, LN J b → (∀ c, c ≠ 323 → J c = I c) → Q (nI 1) J) : wp_X8_nextLine I Q := by
  obtain ⟨P, x, y, A, B, rfl, rfl, hp⟩ := hx
  have g7 : 7 < 1372 := by omega
  have e1 : P ++ x :: (A ++ y :: B).reverse = (P ++ x :: B.reverse) ++ y :: A.reverse := by simp
  have len : (P ++ x :: (A ++ y :: B).reverse).length = P.length + A.length + B.length + 2 := by simp; omega
  have hxy : x < y := by
    have := (List.pairwise_append.mp hp).2.1
    exact (List.pairwise_cons.mp this).1 y (by simp)
  have pD : ((A ++ y :: B).reverse).Pairwise (fun p q => q < p) := by
    rw [List.pairwise_reverse]
    exact hp.sublist (List.Sublist.append_left (List.sublist_cons_self _ _) A)
  have pA : ∀ p, p ∈ A → p < x := fun p hpA => (List.pairwise_append.mp hp).2.2 p hpA x (by simp)
  have pB : ∀ p, p ∈ B → y < p := fun p hpB => by
    have := (List.pairwise_append.mp hp).2.1
    exact (List.pairwise_cons.mp (List.pairwise_cons.mp this).2).1 p hpB
  have gx : (P ++ x :: (A ++ y :: B).reverse).getD P.length 0 = x := getA _ _ _
  have gy : (P ++ x :: (A ++ y :: B).reverse).getD (P ++ x :: B.reverse).length 0 = y := by rw [e1]; exact getA _ _ _
  have ljs : (P ++ x :: B.reverse).length = P.length + 1 + B.length := by simp; omega
  unfold wp_X8_nextLine
  have e2 : nI (P ++ x :: (A ++ y :: B).reverse).length - nI 2 = nI (P.length + A.length + B.length) := by rw [len, nIsub (by omega)]; congr 1
  simp (disch := omega) only [nIvp, nIcl, g7, e7, Bool.true_eq_false, Bool.false_eq_true, false_implies, true_implies, not_true_eq_false, not_false_eq_true, and_true, true_and, e2]
  refine m_k_loop (lo := P.length) h h7 hm ?_ (fun i hi hl => ?_) ?_ (A.length + B.length) _ (by omega) (by rw [len]; omega)
  · rw [gx]
    have := getB P ((A ++ y :: B).reverse) x 0
    rw [Nat.add_zero] at this
    rw [this]
    have hd : ((A ++ y :: B).reverse).getD 0 0 ∈ (A ++ y :: B).reverse := by
      rw [List.getD_eq_getElem?_getD, List.getElem?_eq_getElem (by simp; omega)]
      exact List.getElem_mem _
    rw [List.mem_reverse, List.mem_append, List.mem_cons] at hd
    have hh : x < ((A ++ y :: B).reverse).getD 0 0 ∨ ((A ++ y :: B).reverse).getD 0 0 ∈ A := by
      rcases hd with q | q | q
      · exact Or.inr q
      · rw [q]; exact Or.inl hxy
      · have := pB _ q; exact Or.inl (by omega)
    rcases hh with q | q
    · omega
    · have e3 : ((A ++ y :: B).reverse) = B.reverse ++ y :: A.reverse := by simp
      by_cases b0 : B.length = 0
      · have : B = [] := List.length_eq_zero_iff.mp b0
        subst this
        rw [e3]; simp; omega
      · have pw := pw_get pD (i := 0) (j := B.length) (by omega) (by rw [List.length_reverse, List.length_append, List.length_cons]; omega)
        have e4 : ((A ++ y :: B).reverse).getD B.length 0 = y := by
          rw [e3]
          have := getA B.reverse A.reverse y
          rwa [List.length_reverse] at this
        rw [e4] at pw
        omega
  · have r1 := getB P ((A ++ y :: B).reverse) x (i - (P.length + 1))
    have r2 := getB P ((A ++ y :: B).reverse) x (i + 1 - (P.length + 1))
    rw [show P.length + 1 + (i - (P.length + 1)) = i by omega] at r1
    rw [show P.length + 1 + (i + 1 - (P.length + 1)) = i + 1 by omega] at r2
    rw [r1, r2]
    rw [len] at hl
    exact pw_get pD (by omega) (by simp; omega)
  · unfold wp_X8_nextLine_37
    have c0 : (0 : Int32) ≤ nI P.length := by rw [nI0le (by omega)]; trivial
    have e3 : nI (P ++ x :: (A ++ y :: B).reverse).length - nI 1 = nI (P.length + A.length + B.length + 1) := by rw [len, nIsub (by omega)]; congr 1
    simp (disch := omega) only [c0, Bool.true_eq_false, Bool.false_eq_true, false_implies, true_implies, not_true_eq_false, not_false_eq_true, and_true, true_and, nIvp, nIcl, g7, e7, e3]
    refine m_j_loop (lo := P.length) (js := (P ++ x :: B.reverse).length) h h7 hm (by rw [len]; omega) ?_ (fun i hi hl => ?_) ?_ A.length _ (by rw [ljs]; omega) (by rw [len]; omega)
    · rw [gx, gy]; omega
    · rw [gx]
      have r1 := getB (P ++ x :: B.reverse) A.reverse y (i - ((P ++ x :: B.reverse).length + 1))
      rw [show (P ++ x :: B.reverse).length + 1 + (i - ((P ++ x :: B.reverse).length + 1)) = i by omega, ← e1] at r1
      rw [r1]
      rw [len] at hl
      rw [ljs] at hi ⊢
      have : A.reverse.getD (i - (P.length + 1 + B.length + 1)) 0 ∈ A.reverse := by
        rw [List.getD_eq_getElem?_getD, List.getElem?_eq_getElem (by rw [List.length_reverse]; omega)]
        exact List.getElem_mem _
      exact pA _ (List.mem_reverse.mp this)
    · refine m_swapL h h7 (by rw [len]; omega) (by rw [len, ljs]; omega) (fun J jl jf => ?_)
      rw [gx, gy, setA] at jl
      have e4 : P ++ y :: (A ++ y :: B).reverse = (P ++ y :: B.reverse) ++ y :: A.reverse := by simp
      have e5 : (P ++ x :: B.reverse).length = (P ++ y :: B.reverse).length := by simp
      rw [e4, e5, setA] at jl
      have e6 : (P ++ y :: B.reverse) ++ x :: A.reverse = (P ++ [y]) ++ (B.reverse ++ x :: A.reverse) ++ [] := by simp
      rw [e6] at jl
      have j7 : J 316 7 = nI (P ++ x :: (A ++ y :: B).reverse).length := by rw [jf 316 (by omega)]; exact e7
      simp (disch := omega) only [nIvp, nIcl, g7, j7, Bool.true_eq_false, Bool.false_eq_true, false_implies, true_implies, not_true_eq_false, not_false_eq_true, and_true, true_and, nI_add]
      have rl := m_rv_loop (Q := Q) (k := fun I => Q (nI 1) I) (I0 := I) 3 (P ++ [y]) (B.reverse ++ x :: A.reverse) [] J (by simp; omega) (by simp) (by simp; omega) jl jf (fun K kl kf => hq K (by
        have : P ++ y :: (A ++ x :: B) = (P ++ [y]) ++ (B.reverse ++ x :: A.reverse).reverse ++ [] := by simp
        rw [this]; exact kl) kf)
      refine ⟨4, ?_⟩
      rw [List.length_append, List.length_singleton] at rl
      have e8 : P.length + 1 + (B.reverse ++ x :: A.reverse).length = (P ++ x :: (A ++ y :: B).reverse).length := by simp; omega
      rw [e8] at rl
      exact rl
theorem m_next_none {Q : Int32 → II → Prop} (h : LN I l) (h7 : l.length ≤ 7) (hm : ∀ p, p ∈ l → p < 7) (e7 : I 316 7 = nI l.length) (hx : EN l) (hq : Q (nI 0) I) : wp_X8_nextLine I Q := by
  have g7 : 7 < 1372 := by omega
  unfold wp_X8_nextLine
  have fin : ∀ z : Int32, z < 0 → wp_X8_nextLine_37 Q z I := fun z hz => by
    unfold wp_X8_nextLine_37
    have : ¬ (0 : Int32) ≤ z := by rw [i32_le, Classical.not_not]; exact hz
    simp only [this, Bool.true_eq_false, Bool.false_eq_true, false_implies, true_implies, not_true_eq_false, not_false_eq_true, and_true, true_and]; exact hq
  simp (disch := omega) only [nIvp, nIcl, g7, e7, Bool.true_eq_false, Bool.false_eq_true, false_implies, true_implies, not_true_eq_false, not_false_eq_true, and_true, true_and]
  by_cases c : 2 ≤ l.length
  · rw [nIsub c]
    exact m_k_end h h7 hm (fun i hi => pw_get hx (by omega) hi) (fin _ (by decide)) (l.length - 2) (by omega)
  · refine ⟨1, ?_⟩
    rw [wp_X8_nextLine_10.eq_2]
    have c2 : nI l.length - nI 2 < 0 := pk_sneg (by omega) (by omega)
    simp only [c2, Bool.true_eq_false, Bool.false_eq_true, false_implies, true_implies, not_true_eq_false, not_false_eq_true, and_true, true_and]
    exact fin _ c2
end NEXT

/-! ===== ask ===== -/
def trX (c s n : Nat) (I : II) (l : List Nat) : II := fun a k => if a = c ∧ k = s then nI l.length else if a = n ∧ k < l.length then nI (l.getD k 0) else I a k
def mkV (f : TW) (t k : Nat) : Int32 := if k = 2 then nI 2 * (nI t + f (41 + t)) else if k = 3 then nI t + f (41 + t) - nI 1000 else nI t + f (41 + t)
def mkL (k : Nat) : List Nat := if k = 2 then [24, 21, 20] else if k = 3 then [22, 21, 20] else [21, 20]
def szV (f : TW) (t k : Nat) : Int32 := if k = 2 then -(f (37 + t) + mkV f t k) else if k = 4 then f (37 + t) - nI 100 else if k = 5 then nI 2 * (f (37 + t) - nI 100) else f (37 + t) + mkV f t k
def szL (k : Nat) : List Nat := if k = 2 then [12, 11, 10] ++ mkL k else if k = 4 then [13, 10] else if k = 5 then [14, 13, 10] else [11, 10] ++ mkL k
section ASKS2
variable {I : II} {f : TW} {c s n : Nat} {l : List Nat}
theorem trX_len : trX c s n I l c s = nI l.length := by simp [trX]
theorem trX_oth {a k : Nat} (h1 : ¬ (a = c ∧ k = s)) (h2 : a ≠ n) : trX c s n I l a k = I a k := by
  unfold trX; rw [if_neg h1, if_neg (fun q => h2 q.1)]
theorem trX_0 : su I c s (nI 0) = trX c s n I [] := by
  funext a k
  rw [su_at]
  unfold trX
  by_cases e : a = c ∧ k = s
  · rw [if_pos e, if_pos e]; rfl
  · rw [if_neg e, if_neg e, if_neg (fun q => absurd q.2 (by simp))]
theorem trX_s (hcn : c ≠ n) {p : Nat} : su (su (trX c s n I l) n l.length (nI p)) c s (nI (l.length + 1)) = trX c s n I (l ++ [p]) := by
  funext a k
  rw [su_at, su_at]
  unfold trX
  rw [List.length_append, List.length_singleton]
  by_cases e : a = c ∧ k = s
  · rw [if_pos e, if_pos e]
  · rw [if_neg e, if_neg e, if_neg e]
    by_cases e2 : a = n ∧ k = l.length
    · rw [if_pos e2, if_pos ⟨e2.1, by omega⟩, e2.2, List.getD_eq_getElem?_getD, List.getElem?_append_right (Nat.le_refl _)]
      simp
    · rw [if_neg e2]
      by_cases e3 : a = n ∧ k < l.length
      · rw [if_pos e3, if_pos ⟨e3.1, by omega⟩, List.getD_eq_getElem?_getD, List.getD_eq_getElem?_getD, List.getElem?_append_left e3.2]
      · rw [if_neg e3, if_neg (by omega)]
theorem c_lnum {Q : II → Prop} {p : Nat} (hl : l.length < 16) (hq : Q (trX 313 1 314 I (l ++ [p]))) : wp_X0_leaveNumber (nI p) (trX 313 1 314 I l) Q := by
  unfold wp_X0_leaveNumber
  have e : su (trX 313 1 314 I l) 314 l.length (nI p) 313 1 = nI l.length := by rw [su_cell (by omega), trX_len]
  have c1 : ¬ 16 ≤ l.length := by omega
  simp (disch := omega) only [trX_len, nIle, c1, Bool.true_eq_false, Bool.false_eq_true, false_implies, true_implies, not_true_eq_false, not_false_eq_true, and_true, true_and, nIvp, nIcl, hl, forall_eq, e, nI_add, trX_s]
  exact hq
theorem m_lnum {Q : II → Prop} {p : Nat} (hl : l.length < 16) (hq : Q (trX 315 12 322 I (l ++ [p]))) : wp_X8_begin (nI p) (trX 315 12 322 I l) Q := by
  unfold wp_X8_begin
  have e : su (trX 315 12 322 I l) 322 l.length (nI p) 315 12 = nI l.length := by rw [su_cell (by omega), trX_len]
  have c1 : ¬ 16 ≤ l.length := by omega
  simp (disch := omega) only [trX_len, nIle, c1, Bool.true_eq_false, Bool.false_eq_true, false_implies, true_implies, not_true_eq_false, not_false_eq_true, and_true, true_and, nIvp, nIcl, hl, forall_eq, e, nI_add, trX_s]
  exact hq
theorem trX_bk (h : BK True I 0 f) (l : List Nat) : BK True (trX 313 1 314 I l) 0 f := h.fr (fun a _ _ => funext fun k => trX_oth (by omega) (by omega))
theorem r_10 {t dp : Nat} (h : BK True I 0 f) (hf : WF f) (ht : t < tn f) (hdp : dp ≤ 30) {Q : Int32 → II → Prop} {d : Nat} (hl : l.length ≤ 15) (hq : Q (f (37 + t)) (trX 313 1 314 I (l ++ [10]))) : wpd_X0_run (d + 1) 0 (nI 10) (nI t) (nI dp) (trX 313 1 314 I l) Q := by
  have n4 := hf.n.2
  have t4 : t < 4 := by omega
  have hT' : hT f (nI t) = true := by rw [hT_nI hf (by omega)]; exact decide_eq_true ht
  have ln : ∀ p : Nat, (l ++ [p]).length = l.length + 1 := fun p => by rw [List.length_append, List.length_singleton]
  show wp_X0_run (wpd_X0_run (d + 0)) 0 (nI 10) (nI t) (nI dp) (trX 313 1 314 I l) Q
  unfold wp_X0_run
  rw [c_hasTeller (trX_bk h l) hf, hT', i1_0]
  have c : ¬ 30 < dp := by omega
  simp (disch := omega) only [nIlt, c, Bool.true_eq_false, Bool.false_eq_true, false_implies, true_implies, not_true_eq_false, not_false_eq_true, and_true, true_and]
  refine c_lnum (by omega) ?_
  simp (disch := omega) only [nIeq, Nat.reduceEqDiff, Bool.true_eq_false, Bool.false_eq_true, false_implies, true_implies, not_true_eq_false, not_false_eq_true, and_true, true_and]
  have e := (h.2.1 t ht).2.2.1
  have e2 : trX 313 1 314 I (l ++ [10]) (8 * 0 + 3) t = f (37 + t) := by rw [trX_oth (by omega) (by omega)]; exact e
  simp (disch := omega) only [nIvp, nIcl, t4, e2, Bool.true_eq_false, Bool.false_eq_true, false_implies, true_implies, not_true_eq_false, not_false_eq_true, and_true, true_and]
  exact hq
theorem r_20 {t dp : Nat} (h : BK True I 0 f) (hf : WF f) (ht : t < tn f) (hdp : dp ≤ 30) {Q : Int32 → II → Prop} {d : Nat} (hl : l.length ≤ 15) (hq : Q (nI t) (trX 313 1 314 I (l ++ [20]))) : wpd_X0_run (d + 1) 0 (nI 20) (nI t) (nI dp) (trX 313 1 314 I l) Q := by
  have n4 := hf.n.2
  have t4 : t < 4 := by omega
  have hT' : hT f (nI t) = true := by rw [hT_nI hf (by omega)]; exact decide_eq_true ht
  have ln : ∀ p : Nat, (l ++ [p]).length = l.length + 1 := fun p => by rw [List.length_append, List.length_singleton]
  show wp_X0_run (wpd_X0_run (d + 0)) 0 (nI 20) (nI t) (nI dp) (trX 313 1 314 I l) Q
  unfold wp_X0_run
  rw [c_hasTeller (trX_bk h l) hf, hT', i1_0]
  have c : ¬ 30 < dp := by omega
  simp (disch := omega) only [nIlt, c, Bool.true_eq_false, Bool.false_eq_true, false_implies, true_implies, not_true_eq_false, not_false_eq_true, and_true, true_and]
  refine c_lnum (by omega) ?_
  simp (disch := omega) only [nIeq, Nat.reduceEqDiff, Bool.true_eq_false, Bool.false_eq_true, false_implies, true_implies, not_true_eq_false, not_false_eq_true, and_true, true_and]
  exact hq
theorem r_21 {t dp : Nat} (h : BK True I 0 f) (hf : WF f) (ht : t < tn f) (hdp : dp ≤ 29) {Q : Int32 → II → Prop} {d : Nat} (hl : l.length ≤ 14) (hq : Q (nI t + f (41 + t)) (trX 313 1 314 I (l ++ [21, 20]))) : wpd_X0_run (d + 2) 0 (nI 21) (nI t) (nI dp) (trX 313 1 314 I l) Q := by
  have n4 := hf.n.2
  have t4 : t < 4 := by omega
  have hT' : hT f (nI t) = true := by rw [hT_nI hf (by omega)]; exact decide_eq_true ht
  have ln : ∀ p : Nat, (l ++ [p]).length = l.length + 1 := fun p => by rw [List.length_append, List.length_singleton]
  show wp_X0_run (wpd_X0_run (d + 1)) 0 (nI 21) (nI t) (nI dp) (trX 313 1 314 I l) Q
  unfold wp_X0_run
  rw [c_hasTeller (trX_bk h l) hf, hT', i1_0]
  have c : ¬ 30 < dp := by omega
  simp (disch := omega) only [nIlt, c, Bool.true_eq_false, Bool.false_eq_true, false_implies, true_implies, not_true_eq_false, not_false_eq_true, and_true, true_and]
  refine c_lnum (by omega) ?_
  simp (disch := omega) only [nIeq, Nat.reduceEqDiff, Bool.true_eq_false, Bool.false_eq_true, false_implies, true_implies, not_true_eq_false, not_false_eq_true, and_true, true_and]
  rw [nI_add]
  refine r_20 (dp := dp + 1) h hf ht (by omega) (by rw [ln]; omega) ?_
  rw [List.append_assoc]
  have e := (h.2.1 t ht).2.2.2.1
  have e2 : trX 313 1 314 I (l ++ ([21] ++ [20])) (8 * 0 + 4) t = f (41 + t) := by rw [trX_oth (by omega) (by omega)]; exact e
  simp (disch := omega) only [nIvp, nIcl, t4, e2, Bool.true_eq_false, Bool.false_eq_true, false_implies, true_implies, not_true_eq_false, not_false_eq_true, and_true, true_and]
  exact hq
theorem r_22 {t dp : Nat} (h : BK True I 0 f) (hf : WF f) (ht : t < tn f) (hdp : dp ≤ 28) {Q : Int32 → II → Prop} {d : Nat} (hl : l.length ≤ 13) (hq : Q (nI t + f (41 + t) - nI 1000) (trX 313 1 314 I (l ++ [22, 21, 20]))) : wpd_X0_run (d + 3) 0 (nI 22) (nI t) (nI dp) (trX 313 1 314 I l) Q := by
  have n4 := hf.n.2
  have t4 : t < 4 := by omega
  have hT' : hT f (nI t) = true := by rw [hT_nI hf (by omega)]; exact decide_eq_true ht
  have ln : ∀ p : Nat, (l ++ [p]).length = l.length + 1 := fun p => by rw [List.length_append, List.length_singleton]
  show wp_X0_run (wpd_X0_run (d + 2)) 0 (nI 22) (nI t) (nI dp) (trX 313 1 314 I l) Q
  unfold wp_X0_run
  rw [c_hasTeller (trX_bk h l) hf, hT', i1_0]
  have c : ¬ 30 < dp := by omega
  simp (disch := omega) only [nIlt, c, Bool.true_eq_false, Bool.false_eq_true, false_implies, true_implies, not_true_eq_false, not_false_eq_true, and_true, true_and]
  refine c_lnum (by omega) ?_
  simp (disch := omega) only [nIeq, Nat.reduceEqDiff, Bool.true_eq_false, Bool.false_eq_true, false_implies, true_implies, not_true_eq_false, not_false_eq_true, and_true, true_and]
  rw [nI_add]
  refine r_21 (dp := dp + 1) h hf ht (by omega) (by rw [ln]; omega) ?_
  rw [List.append_assoc]
  exact hq
theorem r_24 {t dp : Nat} (h : BK True I 0 f) (hf : WF f) (ht : t < tn f) (hdp : dp ≤ 28) {Q : Int32 → II → Prop} {d : Nat} (hl : l.length ≤ 13) (hq : Q (nI 2 * (nI t + f (41 + t))) (trX 313 1 314 I (l ++ [24, 21, 20]))) : wpd_X0_run (d + 3) 0 (nI 24) (nI t) (nI dp) (trX 313 1 314 I l) Q := by
  have n4 := hf.n.2
  have t4 : t < 4 := by omega
  have hT' : hT f (nI t) = true := by rw [hT_nI hf (by omega)]; exact decide_eq_true ht
  have ln : ∀ p : Nat, (l ++ [p]).length = l.length + 1 := fun p => by rw [List.length_append, List.length_singleton]
  show wp_X0_run (wpd_X0_run (d + 2)) 0 (nI 24) (nI t) (nI dp) (trX 313 1 314 I l) Q
  unfold wp_X0_run
  rw [c_hasTeller (trX_bk h l) hf, hT', i1_0]
  have c : ¬ 30 < dp := by omega
  simp (disch := omega) only [nIlt, c, Bool.true_eq_false, Bool.false_eq_true, false_implies, true_implies, not_true_eq_false, not_false_eq_true, and_true, true_and]
  refine c_lnum (by omega) ?_
  simp (disch := omega) only [nIeq, Nat.reduceEqDiff, Bool.true_eq_false, Bool.false_eq_true, false_implies, true_implies, not_true_eq_false, not_false_eq_true, and_true, true_and]
  rw [nI_add]
  refine r_21 (dp := dp + 1) h hf ht (by omega) (by rw [ln]; omega) ?_
  rw [List.append_assoc]
  exact hq
theorem r_13 {t dp : Nat} (h : BK True I 0 f) (hf : WF f) (ht : t < tn f) (hdp : dp ≤ 29) {Q : Int32 → II → Prop} {d : Nat} (hl : l.length ≤ 14) (hq : Q (f (37 + t) - nI 100) (trX 313 1 314 I (l ++ [13, 10]))) : wpd_X0_run (d + 2) 0 (nI 13) (nI t) (nI dp) (trX 313 1 314 I l) Q := by
  have n4 := hf.n.2
  have t4 : t < 4 := by omega
  have hT' : hT f (nI t) = true := by rw [hT_nI hf (by omega)]; exact decide_eq_true ht
  have ln : ∀ p : Nat, (l ++ [p]).length = l.length + 1 := fun p => by rw [List.length_append, List.length_singleton]
  show wp_X0_run (wpd_X0_run (d + 1)) 0 (nI 13) (nI t) (nI dp) (trX 313 1 314 I l) Q
  unfold wp_X0_run
  rw [c_hasTeller (trX_bk h l) hf, hT', i1_0]
  have c : ¬ 30 < dp := by omega
  simp (disch := omega) only [nIlt, c, Bool.true_eq_false, Bool.false_eq_true, false_implies, true_implies, not_true_eq_false, not_false_eq_true, and_true, true_and]
  refine c_lnum (by omega) ?_
  simp (disch := omega) only [nIeq, Nat.reduceEqDiff, Bool.true_eq_false, Bool.false_eq_true, false_implies, true_implies, not_true_eq_false, not_false_eq_true, and_true, true_and]
  rw [nI_add]
  refine r_10 (dp := dp + 1) h hf ht (by omega) (by rw [ln]; omega) ?_
  rw [List.append_assoc]
  exact hq
theorem r_14 {t dp : Nat} (h : BK True I 0 f) (hf : WF f) (ht : t < tn f) (hdp : dp ≤ 28) {Q : Int32 → II → Prop} {d : Nat} (hl : l.length ≤ 13) (hq : Q (nI 2 * (f (37 + t) - nI 100)) (trX 313 1 314 I (l ++ [14, 13, 10]))) : wpd_X0_run (d + 3) 0 (nI 14) (nI t) (nI dp) (trX 313 1 314 I l) Q := by
  have n4 := hf.n.2
  have t4 : t < 4 := by omega
  have hT' : hT f (nI t) = true := by rw [hT_nI hf (by omega)]; exact decide_eq_true ht
  have ln : ∀ p : Nat, (l ++ [p]).length = l.length + 1 := fun p => by rw [List.length_append, List.length_singleton]
  show wp_X0_run (wpd_X0_run (d + 2)) 0 (nI 14) (nI t) (nI dp) (trX 313 1 314 I l) Q
  unfold wp_X0_run
  rw [c_hasTeller (trX_bk h l) hf, hT', i1_0]
  have c : ¬ 30 < dp := by omega
  simp (disch := omega) only [nIlt, c, Bool.true_eq_false, Bool.false_eq_true, false_implies, true_implies, not_true_eq_false, not_false_eq_true, and_true, true_and]
  refine c_lnum (by omega) ?_
  simp (disch := omega) only [nIeq, Nat.reduceEqDiff, Bool.true_eq_false, Bool.false_eq_true, false_implies, true_implies, not_true_eq_false, not_false_eq_true, and_true, true_and]
  rw [nI_add]
  refine r_13 (dp := dp + 1) h hf ht (by omega) (by rw [ln]; omega) ?_
  rw [List.append_assoc]
  exact hq
theorem bf_step {Q : Int32 → II → Prop} {k44 : Int32 → II → Prop} {k59 : II → Prop} {N a x v : Nat} {w : Int32} (hw : w = nI 0 ∧ stS a = nI v ∨ w = nI 1 ∧ stM a = nI v) (ha : a < 6) (hx : x < 6) (hv : v < 100) (h1 : ¬ v = 0 → k44 (nI v) I) (h2 : v = 0 → wp_X0_bodyFor_4 Q k44 k59 N w (stA a) (nI (x + 1)) I) : wp_X0_bodyFor_4 Q k44 k59 (N + 1) w (nI a) (nI x) I := by
  rw [wp_X0_bodyFor_4.eq_2]
  have c1 : ¬ 6 ≤ x := by omega
  have c2 : ¬ 6 ≤ a := by omega
  simp (disch := omega) only [nIle, c1, c2, nIlt0, Bool.true_eq_false, Bool.false_eq_true, false_implies, true_implies, not_true_eq_false, not_false_eq_true, and_true, true_and, nIvp, nIcl, ha, nI_add, wp_X0_bodyFor_37]
  rcases hw with ⟨rfl, e⟩ | ⟨rfl, e⟩
  · refine ⟨fun z => absurd nI_0 z, fun _ => ?_⟩
    rw [e, nIe0 (by omega)]
    exact ⟨h2, h1⟩
  · refine ⟨fun _ => ?_, fun z => absurd z (by decide)⟩
    rw [e, nIe0 (by omega)]
    exact ⟨h2, h1⟩
def bSz (k : Nat) : Nat := if k = 2 then 12 else if k = 4 then 13 else if k = 5 then 14 else 11
def bMk (k : Nat) : Nat := if k = 1 then 21 else if k = 2 then 24 else if k = 3 then 22 else 23
theorem bf_sz {Q : Int32 → II → Prop} {k : Nat} (h1 : 1 ≤ k) (h5 : k ≤ 5) (hq : Q (nI (bSz k)) I) : wp_X0_bodyFor (nI k) (nI 0) I Q := by
  unfold wp_X0_bodyFor
  refine ⟨2, ?_⟩
  have e : k = 1 ∨ k = 2 ∨ k = 3 ∨ k = 4 ∨ k = 5 := by omega
  rcases e with rfl | rfl | rfl | rfl | rfl
  · exact bf_step (v := 11) (Or.inl ⟨rfl, by decide⟩) (by omega) (by omega) (by omega) (fun _ => hq) (fun z => absurd z (by omega))
  · exact bf_step (v := 12) (Or.inl ⟨rfl, by decide⟩) (by omega) (by omega) (by omega) (fun _ => hq) (fun z => absurd z (by omega))
  · refine bf_step (v := 0) (Or.inl ⟨rfl, by decide⟩) (by omega) (by omega) (by omega) (fun z => absurd rfl z) (fun _ => ?_)
    rw [stA_3]
    exact bf_step (v := 11) (Or.inl ⟨rfl, by decide⟩) (by omega) (by omega) (by omega) (fun _ => hq) (fun z => absurd z (by omega))
  · exact bf_step (v := 13) (Or.inl ⟨rfl, by decide⟩) (by omega) (by omega) (by omega) (fun _ => hq) (fun z => absurd z (by omega))
  · exact bf_step (v := 14) (Or.inl ⟨rfl, by decide⟩) (by omega) (by omega) (by omega) (fun _ => hq) (fun z => absurd z (by omega))
theorem bf_mk {Q : Int32 → II → Prop} {k : Nat} (h1 : 1 ≤ k) (h5 : k ≤ 5) (hq : Q (nI (bMk k)) I) : wp_X0_bodyFor (nI k) (nI 1) I Q := by
  unfold wp_X0_bodyFor
  refine ⟨2, ?_⟩
  have e : k = 1 ∨ k = 2 ∨ k = 3 ∨ k = 4 ∨ k = 5 := by omega
  rcases e with rfl | rfl | rfl | rfl | rfl
  · exact bf_step (v := 21) (Or.inr ⟨rfl, by decide⟩) (by omega) (by omega) (by omega) (fun _ => hq) (fun z => absurd z (by omega))
  · exact bf_step (v := 24) (Or.inr ⟨rfl, by decide⟩) (by omega) (by omega) (by omega) (fun _ => hq) (fun z => absurd z (by omega))
  · exact bf_step (v := 22) (Or.inr ⟨rfl, by decide⟩) (by omega) (by omega) (by omega) (fun _ => hq) (fun z => absurd z (by omega))
  · exact bf_step (v := 23) (Or.inr ⟨rfl, by decide⟩) (by omega) (by omega) (by omega) (fun _ => hq) (fun z => absurd z (by omega))
  · refine bf_step (v := 0) (Or.inr ⟨rfl, by decide⟩) (by omega) (by omega) (by omega) (fun z => absurd rfl z) (fun _ => ?_)
    rw [stA_5]
    exact bf_step (v := 23) (Or.inr ⟨rfl, by decide⟩) (by omega) (by omega) (by omega) (fun _ => hq) (fun z => absurd z (by omega))
theorem c_ansOf {rc : Nat → Int32 → Int32 → Int32 → II → (Int32 → II → Prop) → Prop} {t k b : Nat} {w dp : Int32} (h : BK True I 0 f) (hf : WF f) (ht : t < tn f) (ek : f (29 + t) = nI k) (h1 : 1 ≤ k) (h5 : k ≤ 5) (hw : w = nI 0 ∧ b = bSz k ∨ w = nI 1 ∧ b = bMk k) {Q : Int32 → II → Prop} (hq : rc 0 (nI b) (nI t) dp I (fun r J => Q r J)) : wp_X0_answerOf rc 0 (nI t) w dp I Q := by
  have n4 := hf.n.2
  have t4 : t < 4 := by omega
  have hT' : hT f (nI t) = true := by rw [hT_nI hf (by omega)]; exact decide_eq_true ht
  have ck : I (8 * 0 + 1) t = nI k := by rw [(h.2.1 t ht).1, ek]
  unfold wp_X0_answerOf
  rw [c_hasTeller h hf, hT', i1_0]
  simp (disch := omega) only [Bool.true_eq_false, Bool.false_eq_true, false_implies, true_implies, not_true_eq_false, not_false_eq_true, and_true, true_and, nIvp, nIcl, t4, ck]
  rcases hw with ⟨rfl, rfl⟩ | ⟨rfl, rfl⟩
  · exact bf_sz h1 h5 hq
  · exact bf_mk h1 h5 hq
theorem c_mkA {t k dp d : Nat} (h : BK True I 0 f) (hf : WF f) (ht : t < tn f) (ek : f (29 + t) = nI k) (h1 : 1 ≤ k) (h3 : k ≤ 3) (hdp : dp ≤ 28) {Q : Int32 → II → Prop} (hl : l.length ≤ 13) (hq : Q (mkV f t k) (trX 313 1 314 I (l ++ mkL k))) : wp_X0_answerOf (wpd_X0_run (d + 3)) 0 (nI t) (nI 1) (nI dp) (trX 313 1 314 I l) Q := by
  refine c_ansOf (b := bMk k) (trX_bk h l) hf ht ek h1 (by omega) (Or.inr ⟨rfl, rfl⟩) ?_
  have e : k = 1 ∨ k = 2 ∨ k = 3 := by omega
  rcases e with rfl | rfl | rfl
  · exact r_21 h hf ht (by omega) (by omega) hq
  · exact r_24 h hf ht (by omega) (by omega) hq
  · exact r_22 h hf ht (by omega) (by omega) hq
theorem r_11 {t dp : Nat} (h : BK True I 0 f) (hf : WF f) (ht : t < tn f) (hdp : dp ≤ 26) {Q : Int32 → II → Prop} {d : Nat} {k : Nat} (ek : f (29 + t) = nI k) (h1 : 1 ≤ k) (h3 : k ≤ 3) (hl : l.length ≤ 10) (hq : Q (f (37 + t) + mkV f t k) (trX 313 1 314 I (l ++ ([11, 10] ++ mkL k)))) : wpd_X0_run (d + 4) 0 (nI 11) (nI t) (nI dp) (trX 313 1 314 I l) Q := by
  have n4 := hf.n.2
  have t4 : t < 4 := by omega
  have hT' : hT f (nI t) = true := by rw [hT_nI hf (by omega)]; exact decide_eq_true ht
  have ln : ∀ p : Nat, (l ++ [p]).length = l.length + 1 := fun p => by rw [List.length_append, List.length_singleton]
  show wp_X0_run (wpd_X0_run (d + 3)) 0 (nI 11) (nI t) (nI dp) (trX 313 1 314 I l) Q
  unfold wp_X0_run
  rw [c_hasTeller (trX_bk h l) hf, hT', i1_0]
  have c : ¬ 30 < dp := by omega
  simp (disch := omega) only [nIlt, c, Bool.true_eq_false, Bool.false_eq_true, false_implies, true_implies, not_true_eq_false, not_false_eq_true, and_true, true_and]
  refine c_lnum (by omega) ?_
  simp (disch := omega) only [nIeq, Nat.reduceEqDiff, Bool.true_eq_false, Bool.false_eq_true, false_implies, true_implies, not_true_eq_false, not_false_eq_true, and_true, true_and]
  rw [nI_add]
  refine r_10 (dp := dp + 1) h hf ht (by omega) (by rw [ln]; omega) ?_
  refine c_mkA (k := k) h hf ht ek h1 h3 (by omega) (by rw [List.length_append, ln, List.length_singleton]; omega) ?_
  rw [List.append_assoc, List.append_assoc]
  exact hq
theorem r_12 {t dp : Nat} (h : BK True I 0 f) (hf : WF f) (ht : t < tn f) (hdp : dp ≤ 25) {Q : Int32 → II → Prop} {d : Nat} {k : Nat} (ek : f (29 + t) = nI k) (h1 : 1 ≤ k) (h3 : k ≤ 3) (hl : l.length ≤ 9) (hq : Q (-(f (37 + t) + mkV f t k)) (trX 313 1 314 I (l ++ ([12, 11, 10] ++ mkL k)))) : wpd_X0_run (d + 5) 0 (nI 12) (nI t) (nI dp) (trX 313 1 314 I l) Q := by
  have n4 := hf.n.2
  have t4 : t < 4 := by omega
  have hT' : hT f (nI t) = true := by rw [hT_nI hf (by omega)]; exact decide_eq_true ht
  have ln : ∀ p : Nat, (l ++ [p]).length = l.length + 1 := fun p => by rw [List.length_append, List.length_singleton]
  show wp_X0_run (wpd_X0_run (d + 4)) 0 (nI 12) (nI t) (nI dp) (trX 313 1 314 I l) Q
  unfold wp_X0_run
  rw [c_hasTeller (trX_bk h l) hf, hT', i1_0]
  have c : ¬ 30 < dp := by omega
  simp (disch := omega) only [nIlt, c, Bool.true_eq_false, Bool.false_eq_true, false_implies, true_implies, not_true_eq_false, not_false_eq_true, and_true, true_and]
  refine c_lnum (by omega) ?_
  simp (disch := omega) only [nIeq, Nat.reduceEqDiff, Bool.true_eq_false, Bool.false_eq_true, false_implies, true_implies, not_true_eq_false, not_false_eq_true, and_true, true_and]
  rw [nI_add]
  refine r_11 (dp := dp + 1) h hf ht (by omega) ek h1 h3 (by rw [ln]; omega) ?_
  rw [List.append_assoc]
  exact hq
theorem c_szA {t k dp d : Nat} (h : BK True I 0 f) (hf : WF f) (ht : t < tn f) (ek : f (29 + t) = nI k) (h1 : 1 ≤ k) (h5 : k ≤ 5) (hdp : dp ≤ 25) {Q : Int32 → II → Prop} (hl : l.length ≤ 9) (hq : Q (szV f t k) (trX 313 1 314 I (l ++ szL k))) : wp_X0_answerOf (wpd_X0_run (d + 5)) 0 (nI t) (nI 0) (nI dp) (trX 313 1 314 I l) Q := by
  refine c_ansOf (b := bSz k) (trX_bk h l) hf ht ek h1 h5 (Or.inl ⟨rfl, rfl⟩) ?_
  have e : k = 1 ∨ k = 2 ∨ k = 3 ∨ k = 4 ∨ k = 5 := by omega
  rcases e with rfl | rfl | rfl | rfl | rfl
  · exact r_11 h hf ht (by omega) ek (by omega) (by omega) (by omega) hq
  · exact r_12 h hf ht (by omega) ek (by omega) (by omega) (by omega) hq
  · exact r_11 h hf ht (by omega) ek (by omega) (by omega) (by omega) hq
  · exact r_13 h hf ht (by omega) (by omega) hq
  · exact r_14 h hf ht (by omega) (by omega) hq
theorem r_23 {t dp : Nat} (h : BK True I 0 f) (hf : WF f) (ht : t < tn f) (hdp : dp ≤ 24) {Q : Int32 → II → Prop} {d : Nat} {k : Nat} (ek : f (29 + t) = nI k) (h1 : 1 ≤ k) (h5 : k ≤ 5) (hl : l.length ≤ 7) (hq : Q (nI t - szV f t k) (trX 313 1 314 I (l ++ ([23, 20] ++ szL k)))) : wpd_X0_run (d + 6) 0 (nI 23) (nI t) (nI dp) (trX 313 1 314 I l) Q := by
  have n4 := hf.n.2
  have t4 : t < 4 := by omega
  have hT' : hT f (nI t) = true := by rw [hT_nI hf (by omega)]; exact decide_eq_true ht
  have ln : ∀ p : Nat, (l ++ [p]).length = l.length + 1 := fun p => by rw [List.length_append, List.length_singleton]
  show wp_X0_run (wpd_X0_run (d + 5)) 0 (nI 23) (nI t) (nI dp) (trX 313 1 314 I l) Q
  unfold wp_X0_run
  rw [c_hasTeller (trX_bk h l) hf, hT', i1_0]
  have c : ¬ 30 < dp := by omega
  simp (disch := omega) only [nIlt, c, Bool.true_eq_false, Bool.false_eq_true, false_implies, true_implies, not_true_eq_false, not_false_eq_true, and_true, true_and]
  refine c_lnum (by omega) ?_
  simp (disch := omega) only [nIeq, Nat.reduceEqDiff, Bool.true_eq_false, Bool.false_eq_true, false_implies, true_implies, not_true_eq_false, not_false_eq_true, and_true, true_and]
  rw [nI_add]
  refine r_20 (dp := dp + 1) h hf ht (by omega) (by rw [ln]; omega) ?_
  refine c_szA (k := k) h hf ht ek h1 h5 (by omega) (by rw [List.length_append, ln, List.length_singleton]; omega) ?_
  rw [List.append_assoc, List.append_assoc]
  exact hq
end ASKS2

/-! ===== the text: signs and numbers ===== -/
def tp (I : II) (p e : Nat) : II := fun a k => if a = 301 ∧ k = 3 then nI p else if a = 301 ∧ k = 4 then nI e else I a k
def mq (I : II) (p : Nat) (w n : Int32) : II := fun a k => if a = 315 ∧ k = 13 then nI p else if a = 315 ∧ k = 14 then w else if a = 315 ∧ k = 15 then n else I a k
theorem tp_3 (I : II) (p e : Nat) : tp I p e 301 3 = nI p := by simp [tp]
theorem tp_4 (I : II) (p e : Nat) : tp I p e 301 4 = nI e := by simp [tp]
theorem tp_o {I : II} {p e a k : Nat} (h : ¬ (a = 301 ∧ (k = 3 ∨ k = 4))) : tp I p e a k = I a k := by
  unfold tp; rw [if_neg (by omega), if_neg (by omega)]
theorem tp_c {I : II} {p e a : Nat} (h : a ≠ 301) : tp I p e a = I a := funext fun k => tp_o (by omega)
theorem tp_s3 (I : II) (p e q : Nat) : su (tp I p e) 301 3 (nI q) = tp I q e := by
  funext a k
  rw [su_at]
  unfold tp
  by_cases h : a = 301 ∧ k = 3
  · rw [if_pos h, if_pos h]
  · rw [if_neg h, if_neg h, if_neg h]
theorem tp_s4 (I : II) (p e q : Nat) : su (tp I p e) 301 4 (nI q) = tp I p q := by
  funext a k
  rw [su_at]
  unfold tp
  by_cases h : a = 301 ∧ k = 4
  · rw [if_pos h, if_neg (by omega), if_pos h]
  · rw [if_neg h, if_neg h, if_neg h]
theorem tp_su {I : II} {p e a k : Nat} {v : Int32} (h : a ≠ 301) : su (tp I p e) a k v = tp (su I a k v) p e := by
  funext b l
  rw [su_at]
  unfold tp
  rw [su_at]
  by_cases h1 : b = 301 ∧ l = 3
  · rw [if_neg (by omega), if_pos h1, if_pos h1]
  · by_cases h2 : b = 301 ∧ l = 4
    · rw [if_neg (by omega), if_neg h1, if_pos h2, if_neg h1, if_pos h2]
    · rw [if_neg h1, if_neg h2, if_neg h1, if_neg h2]
theorem mq_p (I : II) (p : Nat) (w n : Int32) : mq I p w n 315 13 = nI p := by simp [mq]
theorem mq_w (I : II) (p : Nat) (w n : Int32) : mq I p w n 315 14 = w := by simp [mq]
theorem mq_n (I : II) (p : Nat) (w n : Int32) : mq I p w n 315 15 = n := by simp [mq]
theorem mq_o {I : II} {p : Nat} {w n : Int32} {a k : Nat} (h : ¬ (a = 315 ∧ (k = 13 ∨ k = 14 ∨ k = 15))) : mq I p w n a k = I a k := by
  unfold mq; rw [if_neg (by omega), if_neg (by omega), if_neg (by omega)]
theorem mq_c {I : II} {p : Nat} {w n : Int32} {a : Nat} (h : a ≠ 315) : mq I p w n a = I a := funext fun k => mq_o (by omega)
theorem mq_sp (I : II) (p q : Nat) (w n : Int32) : su (mq I p w n) 315 13 (nI q) = mq I q w n := by
  funext a k
  rw [su_at]
  unfold mq
  by_cases h : a = 315 ∧ k = 13
  · rw [if_pos h, if_pos h]
  · rw [if_neg h, if_neg h, if_neg h]
theorem mq_sw (I : II) (p : Nat) (w n v : Int32) : su (mq I p w n) 315 14 v = mq I p v n := by
  funext a k
  rw [su_at]
  unfold mq
  by_cases h : a = 315 ∧ k = 14
  · rw [if_pos h, if_neg (by omega), if_pos h]
  · rw [if_neg h, if_neg h, if_neg h]
theorem mq_sn (I : II) (p : Nat) (w n v : Int32) : su (mq I p w n) 315 15 v = mq I p w v := by
  funext a k
  rw [su_at]
  unfold mq
  by_cases h : a = 315 ∧ k = 15
  · rw [if_pos h, if_neg (by omega), if_neg (by omega), if_pos h]
  · rw [if_neg h, if_neg h, if_neg h]
theorem mq_su {I : II} {p : Nat} {w n : Int32} {a k : Nat} {v : Int32} (h : a ≠ 315) : su (mq I p w n) a k v = mq (su I a k v) p w n := by
  funext b l
  rw [su_at]
  unfold mq
  rw [su_at]
  by_cases h1 : b = 315 ∧ l = 13
  · rw [if_neg (by omega), if_pos h1, if_pos h1]
  · by_cases h2 : b = 315 ∧ l = 14
    · rw [if_neg (by omega), if_neg h1, if_pos h2, if_neg h1, if_pos h2]
    · by_cases h3 : b = 315 ∧ l = 15
      · rw [if_neg (by omega), if_neg h1, if_neg h2, if_pos h3, if_neg h1, if_neg h2, if_pos h3]
      · rw [if_neg h1, if_neg h2, if_neg h3, if_neg h1, if_neg h2, if_neg h3]
def CT (I : II) (b : Nat → Int32) (z : Nat) : Prop := z ≤ 120 ∧ I 301 2 = nI z ∧ ∀ i, i < z → I 302 i = b i
def TM (I : II) (b : Nat → Int32) (z : Nat) : Prop := z ≤ 120 ∧ I 315 8 = nI z ∧ ∀ i, i < z → I 321 i = b i
section TOK
variable (b : Nat → Int32) (z : Nat)
def by_ (i : Nat) : Int32 := if i < z then b i else (-nI 1000000)
def fg (i : Nat) : Bool := decide (i < z) && inB 48 57 (b i)
def lt_ (c p : Nat) : Bool := decide (p < z) && decide (b p = nI c)
def nV (p : Nat) : Int32 := if fg b z (p + 1) then nI 10 * (b p - nI 48) + b (p + 1) - nI 48 else b p - nI 48
def nS (p : Nat) : Nat := if fg b z (p + 1) then 2 else 1
def nE (lo hi p : Nat) : Nat := if fg b z p = false ∨ (fg b z (p + 1) = true ∧ fg b z (p + 2) = true) then 1 else if inB lo hi (nV b z p) then 0 else 2
def TK (c : Nat) (s : Nat × Nat) : Nat × Nat := if s.2 = 0 then (if lt_ b z c s.1 then (s.1 + 1, 0) else (s.1, 1)) else s
def NM (lo hi : Nat) (s : Nat × Nat) : Nat × Nat := if s.2 = 0 then (if nE b z lo hi s.1 = 0 then (s.1 + nS b z s.1, 0) else (s.1, nE b z lo hi s.1)) else s
end TOK
section TOK2
variable {b : Nat → Int32} {z : Nat} {I : II}
theorem TK_f {c : Nat} {s : Nat × Nat} (h : ¬ s.2 = 0) : TK b z c s = s := by unfold TK; rw [if_neg h]
theorem NM_f {lo hi : Nat} {s : Nat × Nat} (h : ¬ s.2 = 0) : NM b z lo hi s = s := by unfold NM; rw [if_neg h]
theorem fg_lt {i : Nat} (h : fg b z i = true) : i < z := by
  unfold fg at h; rw [Bool.and_eq_true, decide_eq_true_eq] at h; exact h.1
theorem nE_fg {lo hi p : Nat} (h : nE b z lo hi p = 0) : fg b z p = true ∧ inB lo hi (nV b z p) = true := by
  unfold nE at h
  split at h
  · omega
  · rename_i c
    split at h
    · rename_i d
      refine ⟨?_, d⟩
      cases e : fg b z p with
      | true => rfl
      | false => exact absurd (Or.inl e) c
    · omega
theorem nE_le (lo hi p : Nat) : nE b z lo hi p ≤ 2 := by
  unfold nE
  split
  · omega
  · split <;> omega
theorem TK_le {c : Nat} {s : Nat × Nat} (h : s.1 ≤ z) : (TK b z c s).1 ≤ z := by
  unfold TK
  split
  · split
    · rename_i _ h2
      unfold lt_ at h2
      rw [Bool.and_eq_true, decide_eq_true_eq] at h2
      show s.1 + 1 ≤ z
      omega
    · exact h
  · exact h
theorem NM_le {lo hi : Nat} {s : Nat × Nat} (h : s.1 ≤ z) : (NM b z lo hi s).1 ≤ z := by
  unfold NM
  split
  · split
    · rename_i _ h2
      have h1 := fg_lt (nE_fg h2).1
      show s.1 + nS b z s.1 ≤ z
      unfold nS
      split
      · rename_i h3
        have := fg_lt h3
        omega
      · omega
    · exact h
  · exact h
theorem TK_e {c : Nat} {s : Nat × Nat} (h : s.2 ≤ 2) : (TK b z c s).2 ≤ 2 := by
  unfold TK
  split
  · split
    · show 0 ≤ 2; omega
    · show 1 ≤ 2; omega
  · exact h
theorem NM_e {lo hi : Nat} {s : Nat × Nat} (h : s.2 ≤ 2) : (NM b z lo hi s).2 ≤ 2 := by
  unfold NM
  split
  · split
    · show 0 ≤ 2; omega
    · exact nE_le _ _ _
  · exact h
theorem c_byteAt {p e i : Nat} (h : CT I b z) (hi : i < 2147483648) (Q : Int32 → II → Prop) (hq : Q (by_ b z i) (tp I p e)) : wp_X6_byteAt (nI i) (tp I p e) Q := by
  obtain ⟨h1, h2, h3⟩ := h
  unfold wp_X6_byteAt
  have e2 : tp I p e 301 2 = nI z := by rw [tp_o (by omega)]; exact h2
  unfold by_ at hq
  by_cases c : i < z
  · rw [if_pos c] at hq
    have c1 : ¬ z ≤ i := by omega
    have c2 : ¬ 120 ≤ i := by omega
    have c3 : i < 120 := by omega
    have e3 : tp I p e 302 i = b i := by rw [tp_c (by omega)]; exact h3 i c
    simp (disch := omega) only [nIlt0, Bool.true_eq_false, Bool.false_eq_true, false_implies, true_implies, not_true_eq_false, not_false_eq_true, and_true, true_and, e2, nIle, c1, c2, c3, nIvp, nIcl, e3]
    exact hq
  · rw [if_neg c] at hq
    have c1 : z ≤ i := by omega
    simp (disch := omega) only [nIlt0, Bool.true_eq_false, Bool.false_eq_true, false_implies, true_implies, not_true_eq_false, not_false_eq_true, and_true, true_and, e2, nIle, c1]
    exact hq
theorem c_isFig {p e i : Nat} (h : CT I b z) (hi : i < 2147483648) (Q : Int32 → II → Prop) (hq : Q (i1 (fg b z i)) (tp I p e)) : wp_X6_isFigure (nI i) (tp I p e) Q := by
  unfold wp_X6_isFigure
  refine c_byteAt h hi _ ?_
  unfold fg at hq
  unfold by_
  by_cases c : i < z
  · rw [if_pos c]
    rw [decide_eq_true c, Bool.true_and] at hq
    unfold inB at hq
    have e1 : (b i < nI 48) = ¬ nI 48 ≤ b i := by rw [i32_le, Classical.not_not]
    have e2 : (nI 57 < b i) = ¬ b i ≤ nI 57 := by rw [i32_le, Classical.not_not]
    rw [e1, e2]
    by_cases c1 : nI 48 ≤ b i <;> by_cases c2 : b i ≤ nI 57 <;> simp [c1, c2, i1] at hq ⊢ <;> exact hq
  · rw [if_neg c]
    rw [decide_eq_false c, Bool.false_and] at hq
    exact ⟨fun _ => hq, fun q => absurd (by decide) q⟩
theorem c_next {p e : Nat} (h : CT I b z) (hp : p ≤ z) (Q : Int32 → II → Prop) (hq : Q (by_ b z p) (tp I p e)) : wp_X6_next (tp I p e) Q := by
  unfold wp_X6_next
  have := h.1
  rw [tp_3]
  exact c_byteAt h (by omega) _ hq
theorem c_takeByte {c : Nat} {s : Nat × Nat} (h : CT I b z) (hp : s.1 ≤ z) (he : s.2 ≤ 3) (hc : c < 1000) (Q : II → Prop) (hq : Q (tp I (TK b z c s).1 (TK b z c s).2)) : wp_X6_takeByte (nI c) (tp I s.1 s.2) Q := by
  have z120 := h.1
  unfold wp_X6_takeByte
  rw [tp_4, nIe0 (by omega)]
  unfold TK at hq
  refine ⟨fun e0 => ?_, fun e0 => by rw [if_neg e0] at hq; exact hq⟩
  rw [if_pos e0] at hq
  refine c_next h hp _ ?_
  unfold by_
  unfold lt_ at hq
  have cN : ¬ (-nI 1000000) = nI c := fun q => by
    have : nI c = (-nI 1000000) := q.symm
    rw [nIneg (by omega) (by omega) (by omega)] at this; exact this
  simp only [forall_eq, tp_3, tp_s4]
  rw [nI_add, tp_s3]
  by_cases c1 : s.1 < z
  · rw [if_pos c1]
    rw [decide_eq_true c1, Bool.true_and] at hq
    refine ⟨fun q => ?_, fun q => ?_⟩
    · rw [decide_eq_false q, if_neg (by decide)] at hq; exact hq
    · rw [decide_eq_true q, if_pos rfl] at hq
      rw [e0]; exact hq
  · rw [if_neg c1]
    rw [decide_eq_false c1, Bool.false_and, if_neg (by decide)] at hq
    exact ⟨fun _ => hq, fun q => absurd q cN⟩
theorem c_takeNumber {lo hi : Nat} {s : Nat × Nat} (h : CT I b z) (hp : s.1 ≤ z) (he : s.2 ≤ 3) (hlo : lo < 1000) (hhi : hi < 1000) (Q : Int32 → II → Prop) (hq : ∀ v, (s.2 = 0 → nE b z lo hi s.1 = 0 → v = nV b z s.1) → Q v (tp I (NM b z lo hi s).1 (NM b z lo hi s).2)) : wp_X6_takeNumber (nI lo) (nI hi) (tp I s.1 s.2) Q := by
  have z120 := h.1
  unfold wp_X6_takeNumber
  rw [tp_4, nIe0 (by omega)]
  unfold NM at hq
  refine ⟨fun e0 => ?_, fun e0 => by rw [if_neg e0] at hq; exact hq _ (fun q => absurd q e0)⟩
  rw [if_pos e0] at hq
  have m3 : ¬ (nI 3 : Int32) ≤ nI 0 := by decide
  have m31 : ¬ (nI 3 : Int32) ≤ nI 1 := by decide
  have m32 : ¬ (nI 3 : Int32) ≤ nI 2 := by decide
  have m33 : (nI 3 : Int32) ≤ nI 3 := by decide
  have k0 : nI 0 + nI 1 = nI 1 := by decide
  have k1 : nI 1 + nI 1 = nI 2 := by decide
  have k2 : nI 2 + nI 1 = nI 3 := by decide
  have v1 : ∀ x : Int32, nI 10 * nI 0 + x - nI 48 = x - nI 48 := fun x => by rw [nI_0, Int32.mul_zero, Int32.zero_add]
  have bad : ∀ v, nE b z lo hi s.1 = 1 → wp_X6_takeNumber_68 Q v (tp I s.1 s.2) := fun v hb => by
    unfold wp_X6_takeNumber_68
    simp only [forall_eq, tp_s4]
    rw [if_neg (by rw [hb]; omega)] at hq
    have := hq v (fun _ q => by omega)
    rw [hb] at this; exact this
  have good : ∀ n : Nat, n = nS b z s.1 → (n = 1 ∨ n = 2) → fg b z s.1 = true → ¬ (fg b z (s.1 + 1) = true ∧ fg b z (s.1 + 2) = true) → wp_X6_takeNumber_59 Q (nI lo) (nI hi) (nI n) (nV b z s.1) (tp I s.1 s.2) := fun n hn hn2 hf hf2 => by
    have en : nE b z lo hi s.1 = if inB lo hi (nV b z s.1) then 0 else 2 := by
      unfold nE; rw [if_neg (by rw [hf]; intro q; rcases q with q | q; exact absurd q (by decide); exact hf2 q)]
    unfold wp_X6_takeNumber_59 wp_X6_takeNumber_88
    have c1 : ¬ n = 0 := by omega
    have c2 : n ≤ 2 := by omega
    rw [tp_3, nI_add, tp_s3, tp_s4]
    simp (disch := omega) only [nIe0, c1, Bool.true_eq_false, Bool.false_eq_true, false_implies, true_implies, not_true_eq_false, not_false_eq_true, and_true, true_and, nIle, c2, forall_eq]
    have b2 : inB lo hi (nV b z s.1) = false → Q (nV b z s.1) (tp I s.1 2) := fun q => by
      rw [en, if_neg (by rw [q]; decide), if_neg (by omega)] at hq
      exact hq _ (fun _ q2 => by omega)
    refine ⟨fun q => b2 ?_, fun q => ⟨fun q2 => ?_, fun q2 => b2 ?_⟩⟩
    · unfold inB; rw [decide_eq_false (by rw [i32_le, Classical.not_not]; exact q)]; rfl
    · have hin : inB lo hi (nV b z s.1) = true := by
        unfold inB; rw [decide_eq_true (by rw [i32_le]; exact q), decide_eq_true q2]; rfl
      rw [en, if_pos hin, if_pos rfl, ← hn] at hq
      have := hq _ (fun _ _ => rfl)
      rw [e0]; exact this
    · unfold inB; rw [decide_eq_false q2, Bool.and_false]
  refine ⟨4, ?_⟩
  rw [wp_X6_takeNumber_14.eq_2, tp_3, nI_add, Nat.add_zero]
  refine ⟨fun q => absurd q m3, fun _ => ?_⟩
  refine c_isFig h (by omega) _ (gd (fun f0 => ?_) (fun f0 => ?_))
  · show wp_X6_takeNumber_59 Q _ _ _ _ _
    unfold wp_X6_takeNumber_59
    refine ⟨fun _ => bad _ (by unfold nE; rw [if_pos (Or.inl f0)]), fun q => absurd nI_0 q⟩
  · have b0 : by_ b z s.1 = b s.1 := by unfold by_; rw [if_pos (fg_lt f0)]
    rw [tp_3, nI_add, Nat.add_zero]
    refine c_byteAt h (by omega) _ ?_
    rw [b0, k0, v1, wp_X6_takeNumber_14.eq_2, tp_3, nI_add]
    refine ⟨fun q => absurd q m31, fun _ => ?_⟩
    refine c_isFig h (by omega) _ (gd (fun f1 => ?_) (fun f1 => ?_))
    · have e1 : nV b z s.1 = b s.1 - nI 48 := by unfold nV; rw [if_neg (by rw [f1]; decide)]
      have := good 1 (by unfold nS; rw [if_neg (by rw [f1]; decide)]) (Or.inl rfl) f0 (fun q => by rw [f1] at q; exact absurd q.1 (by decide))
      rw [e1] at this; exact this
    · have b1 : by_ b z (s.1 + 1) = b (s.1 + 1) := by unfold by_; rw [if_pos (fg_lt f1)]
      rw [tp_3, nI_add]
      refine c_byteAt h (by omega) _ ?_
      rw [b1, k1, wp_X6_takeNumber_14.eq_2, tp_3, nI_add]
      refine ⟨fun q => absurd q m32, fun _ => ?_⟩
      refine c_isFig h (by omega) _ (gd (fun f2 => ?_) (fun f2 => ?_))
      · have e1 : nV b z s.1 = nI 10 * (b s.1 - nI 48) + b (s.1 + 1) - nI 48 := by unfold nV; rw [if_pos f1]
        have := good 2 (by unfold nS; rw [if_pos f1]) (Or.inr rfl) f0 (fun q => by rw [f2] at q; exact absurd q.2 (by decide))
        rw [e1] at this; exact this
      · rw [tp_3, nI_add]
        refine c_byteAt h (by omega) _ ?_
        rw [k2, wp_X6_takeNumber_14.eq_2]
        refine ⟨fun _ => ?_, fun q => absurd m33 q⟩
        show wp_X6_takeNumber_59 Q _ _ _ _ _
        unfold wp_X6_takeNumber_59
        exact ⟨fun q => absurd q (by decide), fun _ => ⟨fun q => absurd q (by decide), fun _ => bad _ (by unfold nE; rw [if_pos (Or.inr ⟨f1, f2⟩)])⟩⟩
theorem m_isFig {p i : Nat} {w n : Int32} (h : TM I b z) (hi : i < 2147483648) (Q : Int32 → II → Prop) (hq : Q (i1 (fg b z i)) (mq I p w n)) : wp_X8_isFigure (nI i) (mq I p w n) Q := by
  obtain ⟨h1, h2, h3⟩ := h
  unfold wp_X8_isFigure
  have e2 : mq I p w n 315 8 = nI z := by rw [mq_o (by omega)]; exact h2
  rw [e2, nIle (by omega) hi]
  unfold fg at hq
  refine ⟨fun c => ?_, fun c => ?_⟩
  · rw [decide_eq_false (by omega), Bool.false_and] at hq; exact hq
  · rw [decide_eq_true (by omega), Bool.true_and] at hq
    have e3 : mq I p w n 321 i = b i := by rw [mq_c (by omega)]; exact h3 i (by omega)
    rw [nIvp hi (by omega), nIcl hi, e3, m_inE _ _ _ _ _ (by omega) (by omega)]
    refine ⟨by omega, gd (fun q => ?_) (fun q => ?_)⟩
    · rw [q] at hq; exact hq
    · rw [q] at hq; exact hq
theorem m_isLet {p c : Nat} {w n : Int32} (h : TM I b z) (hp : p ≤ z) (Q : Int32 → II → Prop) (hq : Q (i1 (lt_ b z c p)) (mq I p w n)) : wp_X8_isLetter (nI c) (mq I p w n) Q := by
  obtain ⟨h1, h2, h3⟩ := h
  unfold wp_X8_isLetter
  have e2 : mq I p w n 315 8 = nI z := by rw [mq_o (by omega)]; exact h2
  rw [e2, mq_p, nIle (by omega) (by omega)]
  unfold lt_ at hq
  refine ⟨fun c => ?_, fun c1 => ?_⟩
  · rw [decide_eq_false (by omega), Bool.false_and] at hq; exact hq
  · rw [decide_eq_true (by omega), Bool.true_and] at hq
    have e3 : mq I p w n 321 p = b p := by rw [mq_c (by omega)]; exact h3 p (by omega)
    rw [nIvp (by omega) (by omega), nIcl (by omega), e3]
    refine ⟨by omega, fun q => ?_, fun q => ?_⟩
    · rw [decide_eq_false q] at hq; exact hq
    · rw [decide_eq_true q] at hq; exact hq
theorem m_sign {c : Nat} {s : Nat × Nat} {w n : Int32} (h : TM I b z) (hp : s.1 ≤ z) (he : s.2 = 0) (Q : Int32 → II → Prop) (h1 : (TK b z c s).2 = 0 → Q (nI 1) (mq I (TK b z c s).1 w n)) (h2 : ¬ (TK b z c s).2 = 0 → Q (nI 0) (mq I (TK b z c s).1 (nI (TK b z c s).2) n)) : wp_X8_sign (nI c) (mq I s.1 w n) Q := by
  unfold wp_X8_sign
  refine m_isLet h hp _ ?_
  unfold TK at h1 h2
  rw [if_pos he] at h1 h2
  refine gd' (fun q => ?_) (fun q => ?_)
  · unfold wp_X8_refuse
    rw [if_neg (by rw [q]; decide)] at h2
    simp only [forall_eq, mq_sw]
    exact ⟨Or.inl rfl, h2 (by show ¬ (1 : Nat) = 0; omega)⟩
  · rw [if_pos q] at h1
    simp only [forall_eq, mq_p]
    rw [nI_add, mq_sp]
    exact h1 rfl
theorem m_number {lo hi : Nat} {s : Nat × Nat} {w n : Int32} (h : TM I b z) (hp : s.1 ≤ z) (he : s.2 = 0) (hlo : lo < 1000) (hhi : hi < 1000) (Q : Int32 → II → Prop) (h1 : (NM b z lo hi s).2 = 0 → Q (nI 1) (mq I (NM b z lo hi s).1 w (nV b z s.1))) (h2 : ∀ n', ¬ (NM b z lo hi s).2 = 0 → Q (nI 0) (mq I (NM b z lo hi s).1 (nI (NM b z lo hi s).2) n')) : wp_X8_readsNumber (nI lo) (nI hi) (mq I s.1 w n) Q := by
  have z120 := h.1
  unfold NM at h1 h2
  rw [if_pos he] at h1 h2
  have bad : ∀ n', nE b z lo hi s.1 = 1 → wp_X8_readsNumber_37 Q (mq I s.1 w n') := fun n' hb => by
    unfold wp_X8_readsNumber_37 wp_X8_refuse
    rw [if_neg (by rw [hb]; omega), hb] at h2
    simp only [forall_eq, mq_sw]
    exact ⟨Or.inl rfl, h2 n' (by show ¬ (1 : Nat) = 0; omega)⟩
  have good : fg b z s.1 = true → ¬ (fg b z (s.1 + 1) = true ∧ fg b z (s.1 + 2) = true) → wp_X8_readsNumber_43 Q (nI lo) (nI hi) (mq I s.1 w n) := fun hf hf2 => by
    have f0 := fg_lt hf
    have en : nE b z lo hi s.1 = if inB lo hi (nV b z s.1) then 0 else 2 := by
      unfold nE; rw [if_neg (by rw [hf]; intro q; rcases q with q | q; exact absurd q (by decide); exact hf2 q)]
    have fin : ∀ (k : Nat) (x : Int32), k = nS b z s.1 → x = nV b z s.1 → ∀ n', wp_X8_readsNumber_113 Q (nI lo) (nI hi) (nI k) x (mq I s.1 w n') := fun k x hk hx n' => by
      unfold wp_X8_readsNumber_113 wp_X8_refuse
      simp only [forall_eq, mq_sn, mq_n, mq_p, mq_sw]
      rw [nI_l (by omega), nI_l (by omega), m_inE _ _ _ _ _ (by omega) (by omega), hx]
      rw [mq_p, nI_add, mq_sp, mq_sw, hk]
      refine gd' (fun q => ?_) (fun q => ?_)
      · have e2 : nE b z lo hi s.1 = 2 := by rw [en, if_neg (by rw [q]; decide)]
        rw [if_neg (by rw [e2]; omega), e2] at h2
        exact ⟨Or.inl rfl, h2 _ (by show ¬ (2 : Nat) = 0; omega)⟩
      · have e2 : nE b z lo hi s.1 = 0 := by rw [en, if_pos q]
        rw [if_pos e2] at h1
        exact h1 rfl
    unfold wp_X8_readsNumber_43
    have e3 : mq I s.1 w n 321 s.1 = b s.1 := by rw [mq_c (by omega)]; exact h.2.2 _ f0
    have c3 : s.1 < 120 := by omega
    rw [mq_p]
    simp (disch := omega) only [nIvp, nIcl, c3, Bool.true_eq_false, Bool.false_eq_true, false_implies, true_implies, not_true_eq_false, not_false_eq_true, and_true, true_and, e3, forall_eq, mq_sn, mq_p, nI_add]
    refine m_isFig h (by omega) _ (gd (fun f1 => ?_) (fun f1 => ?_))
    · unfold wp_X8_readsNumber_77
      refine ⟨fun _ => ?_, fun q => absurd q (by decide)⟩
      rw [mq_n]
      exact fin 1 _ (by unfold nS; rw [if_neg (by rw [f1]; decide)]) (by unfold nV; rw [if_neg (by rw [f1]; decide)]) _
    · unfold wp_X8_readsNumber_77
      refine ⟨fun q => absurd rfl q, fun _ => ?_⟩
      have f1' := fg_lt f1
      have e4 : mq I s.1 w (b s.1 - nI 48) 321 (s.1 + 1) = b (s.1 + 1) := by rw [mq_c (by omega)]; exact h.2.2 _ f1'
      rw [mq_n, mq_p, nI_add, nIvp (by omega) (by omega), nIcl (by omega), e4]
      exact ⟨by omega, fin 2 _ (by unfold nS; rw [if_pos f1]) (by unfold nV; rw [if_pos f1]) _⟩
  unfold wp_X8_readsNumber
  rw [mq_p]
  refine m_isFig h (by omega) _ (gd (fun f0 => bad n (by unfold nE; rw [if_pos (Or.inl f0)])) (fun f0 => ?_))
  rw [mq_p, nI_add]
  refine m_isFig h (by omega) _ (gd (fun f1 => good f0 (fun q => by rw [f1] at q; exact absurd q.1 (by decide))) (fun f1 => ?_))
  rw [mq_p, nI_add]
  refine m_isFig h (by omega) _ (gd (fun f2 => good f0 (fun q => by rw [f2] at q; exact absurd q.2 (by decide))) (fun f2 => bad n (by unfold nE; rw [if_pos (Or.inr ⟨f1, f2⟩)])))
end TOK2

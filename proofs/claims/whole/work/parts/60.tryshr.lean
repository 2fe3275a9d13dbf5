/-! ===== the class tries all shares ===== -/
def SQ (h g : TW) : Prop := ∀ q, q < 45 → q ≠ 4 → h q = g q
def lfN (g : TW) (u : Nat) : Nat := (g (41 + u)).toNatClampNeg
def piN (f : TW) : Nat → Nat → Nat
  | 0, _ => 0
  | d + 1, k => (if f (22 + tq f k) = nI 1 then 0 else (f (15 + tq f k)).toNatClampNeg) + piN f d (k + 1)
def FRS (k : Nat) (I J : II) : Prop := ∀ a s, ¬ (8 * (30 + k) ≤ a ∧ a < 296) → ¬ (a = 310 ∧ k ≤ s) → ¬ (a = 308 ∧ s = 8) → a ≠ 312 → J a s = I a s
theorem FRS.rf (k : Nat) (I : II) : FRS k I I := fun _ _ _ _ _ _ => rfl
theorem FRS.tr {k : Nat} {I J K : II} (h : FRS k I J) (g : FRS k J K) : FRS k I K := fun a s h1 h2 h3 h4 => (g a s h1 h2 h3 h4).trans (h a s h1 h2 h3 h4)
def SBC (I : II) (f : TW) (b : Int32 × List Nat) : Prop := (b.1 = (-nI 1000000) ∨ ∃ n, n ≤ 99 ∧ b.1 = nI n) ∧ I 308 8 = b.1 ∧ (b.1 = (-nI 1000000) ∨ ∀ i, i < tw f → I 312 i = nI (b.2.getD i 0))
theorem SBC.fr {I J : II} {f : TW} {b : Int32 × List Nat} (h : SBC I f b) (e : J 308 = I 308 ∧ J 312 = I 312) : SBC J f b := by
  unfold SBC; rw [e.1, e.2]; exact h
section SHR2
variable {I : II} {f g h : TW}
theorem SQ.n (e : SQ h g) : tn h = tn g := by rw [tn, tn, e 0 (by omega) (by omega)]
theorem SQ.w (e : SQ h g) : tw h = tw g := by rw [tw, tw, e 7 (by omega) (by omega)]
theorem SQ.q (e : SQ h g) {k : Nat} (hk : k < 7) : tq h k = tq g k := by rw [tq, tq, e _ (by omega) (by omega)]
theorem SQ.cost (e : SQ h g) {t : Nat} (ht : t < 4) (x : Int32) : costT h t x = costT g t x := by
  rw [costT, costT, cA, cA, e _ (by omega) (by omega), e _ (by omega) (by omega)]
theorem SQ.py (e : SQ h g) {t : Nat} (ht : t < 4) (x : Int32) : pyT h t x = pyT g t x := by
  rw [pyT, pyT, e.cost ht, e _ (by omega) (by omega), e _ (by omega) (by omega)]
theorem SQ.take (e : SQ h g) {t p : Nat} (ht : t < 4) (hp : p < 7) (v w : Int32) : SQ (upd (upd (takeT h t p) 4 v) (45 + t) w) (takeT g t p) := by
  intro q hq h4
  rw [upd_ne (by omega), upd_ne h4, takeT, takeT]
  have el : lfT h t p = lfT g t p := by
    rw [lfT, lfT, gvT, gvT, e.cost ht, e (22 + p) (by omega) (by omega), e (15 + p) (by omega) (by omega), e (41 + t) (by omega) (by omega)]
  simp only [upd]
  split
  · exact el
  · exact e q hq h4
theorem SQ.por (e : SQ h g) : ∀ n, n ≤ 4 → poor h n = poor g n := by
  intro n
  induction n with
  | zero => intro _; rfl
  | succ n ih => intro hn; rw [poor, poor, ih (by omega), e _ (by omega) (by omega)]
theorem SQ.wf (e : SQ h g) (hg : WF g) : WF h := hg.ch (fun q hq => e q (by omega) (by omega)) (fun t ht => by
  have := hg.n.2
  rw [e _ (by omega) (by omega)]; exact (hg.te ht).2.2.2)
theorem srv_app : ∀ (P r : List Nat) (k : Nat) (f : TW), srvS f k (P ++ r) = match srvS f k P with
    | none => none
    | some g => srvS g (k + P.length) r := by
  intro P
  induction P with
  | nil => intro r k f; rfl
  | cons t P ih =>
    intro r k f
    rw [List.cons_append, srvS_c, srvS_c]
    cases okS f k t with
    | false => rfl
    | true =>
      rw [if_pos rfl, if_pos rfl, ih r (k + 1)]
      simp only [List.length_cons]
      rw [show k + 1 + P.length = k + (P.length + 1) by omega]
theorem srv_q : ∀ (l : List Nat) (k : Nat) (g g' : TW), srvS g k l = some g' → ∀ q, q < 41 → g' q = g q := by
  intro l
  induction l with
  | nil => intro k g g' e q _; rw [srvS] at e; cases e; rfl
  | cons t l ih =>
    intro k g g' e q hq
    rw [srvS_c] at e
    cases ho : okS g k t with
    | false => rw [if_neg (by rw [ho]; decide)] at e; cases e
    | true =>
      rw [if_pos ho] at e
      rw [ih (k + 1) _ g' e q hq, take_q hq]
theorem piN_congr (e : ∀ q, q < 41 → g q = f q) : ∀ d k, k + d ≤ 7 → (∀ i, i < 7 → tq f i < 7 ∨ tw f ≤ i) → k + d ≤ tw f → piN g d k = piN f d k := by
  intro d
  induction d with
  | zero => intro k _ _ _; rfl
  | succ d ih =>
    intro k hk hq hw
    have eq : tq g k = tq f k := by rw [tq, tq, e _ (by omega)]
    have q7 := (hq k (by omega)).resolve_right (by omega)
    rw [piN, piN, ih (k + 1) (by omega) hq (by omega), eq, e _ (by omega), e _ (by omega)]
theorem lf_bd (hg : WF g) {k t : Nat} (hk : k < tw g) (ho : okS g k t = true) : ∀ u, u < tn g → lfN (takeT g t (tq g k)) u ≤ lfN g u + (if g (22 + tq g k) = nI 1 then 0 else (g (15 + tq g k)).toNatClampNeg) := by
  intro u hu
  obtain ⟨h1, h2⟩ := okS_t ho
  unfold lfN
  by_cases e : u = t
  · subst e
    rw [takeT, upd_eq]
    have p7 := (hg.q hk).2
    obtain ⟨hkd, hd, hc, l, hl, el⟩ := hg.te h1
    obtain ⟨x, x1, x2, ex⟩ := hg.sm p7 (hg.kn hk)
    obtain ⟨-, i, hi, ei⟩ := hg.wk (by omega)
    rw [lfT, gvT]
    by_cases hD : g (22 + tq g k) = nI 1
    · have hw := h2 hD
      rw [if_pos hD, if_pos hD, if_pos (by rw [ex]; exact pyT_le hg h1 x1 (by omega))]
      obtain ⟨c, c1, c2, ec⟩ := costT_nI hkd hc x1 (by omega : x ≤ 99)
      rw [pyT, el, ex, ec, ei] at hw
      rw [el, ex, ec, ← Int32.sub_eq_add_neg]
      have h2 : ¬ nI l - nI c < nI i := by simpa using hw
      rw [Int32.lt_iff_toInt_lt, pk_sub_toInt (by omega) (by omega), nI_toInt (by omega)] at h2
      rw [nIsub (by omega), nI_clamp (by omega), nI_clamp (by omega)]
      omega
    · rw [if_neg hD, if_neg hD, el, ex, nI_add, nI_clamp (show l < 2147483648 by omega), nI_clamp (show x < 2147483648 by omega)]
      by_cases c : nI (l + x) ≤ nI 99
      · rw [if_pos c, nI_clamp (by omega)]; exact Nat.le_refl _
      · rw [if_neg c]
        rw [nIle (by omega) (by omega)] at c
        rw [nI_clamp (by omega)]
        omega
  · rw [takeT, upd_ne (by omega)]; omega
theorem srv_bd : ∀ (l : List Nat) (k : Nat) (g g' : TW), WF g → k + l.length ≤ tw g → srvS g k l = some g' → ∀ u, u < tn g → lfN g' u ≤ lfN g u + piN g l.length k := by
  intro l
  induction l with
  | nil => intro k g g' _ _ e u _; rw [srvS] at e; cases e; exact Nat.le_add_right _ _
  | cons t l ih =>
    intro k g g' hg hk e u hu
    rw [List.length_cons] at hk
    have w7 := hg.w.2
    rw [srvS_c] at e
    cases ho : okS g k t with
    | false => rw [if_neg (by rw [ho]; decide)] at e; cases e
    | true =>
      rw [if_pos ho] at e
      have a := ih (k + 1) _ g' (hg.take (by omega) ho) (by rw [take_w]; omega) e u (by rw [take_n]; exact hu)
      have b := lf_bd hg (by omega) ho u hu
      have c : piN (takeT g t (tq g k)) l.length (k + 1) = piN g l.length (k + 1) := piN_congr (f := g) (g := takeT g t (tq g k)) (fun q hq => take_q hq) _ _ (by omega) (fun i hi => by
        by_cases z : i < tw g
        · exact Or.inl (hg.q z).2
        · exact Or.inr (by omega)) (by omega)
      rw [c] at a
      rw [List.length_cons, piN]
      omega
theorem poor_bd {g g' : TW} (hg : WF g) (hg' : WF g') {s : Nat} (en : tn g' = tn g) (hb : ∀ u, u < tn g → lfN g' u ≤ lfN g u + s) : ∀ n, n ≤ tn g → ∃ c c', c ≤ 99 ∧ c' ≤ 99 ∧ poor g n = nI c ∧ poor g' n = nI c' ∧ c' ≤ c + s := by
  intro n
  induction n with
  | zero => intro _; exact ⟨99, 99, Nat.le_refl _, Nat.le_refl _, rfl, rfl, Nat.le_add_right _ _⟩
  | succ n ih =>
    intro hn
    obtain ⟨c, c', h1, h2, h3, h4, h5⟩ := ih (by omega)
    obtain ⟨l, hl, el⟩ := (hg.te (t := n) (by omega)).2.2.2
    obtain ⟨l', hl', el'⟩ := (hg'.te (t := n) (by omega)).2.2.2
    have b := hb n (by omega)
    unfold lfN at b
    rw [el, el', nI_clamp (by omega), nI_clamp (by omega)] at b
    rw [poor, poor, h3, h4, el, el']
    by_cases z1 : l < c <;> by_cases z2 : l' < c'
    · exact ⟨l, l', hl, hl', by rw [if_pos (by rw [nIlt (by omega) (by omega)]; exact z1)], by rw [if_pos (by rw [nIlt (by omega) (by omega)]; exact z2)], by omega⟩
    · exact ⟨l, c', hl, h2, by rw [if_pos (by rw [nIlt (by omega) (by omega)]; exact z1)], by rw [if_neg (by rw [nIlt (by omega) (by omega)]; exact z2)], by omega⟩
    · exact ⟨c, l', h1, hl', by rw [if_neg (by rw [nIlt (by omega) (by omega)]; exact z1)], by rw [if_pos (by rw [nIlt (by omega) (by omega)]; exact z2)], by omega⟩
    · exact ⟨c, c', h1, h2, by rw [if_neg (by rw [nIlt (by omega) (by omega)]; exact z1)], by rw [if_neg (by rw [nIlt (by omega) (by omega)]; exact z2)], by omega⟩
theorem seqs_len : ∀ (n : Nat) (r : List Nat), r ∈ seqs n → r.length = n := by
  intro n
  induction n with
  | zero => intro r hr; have : r = [] := by simpa [seqs] using hr
            rw [this]; rfl
  | succ n ih =>
    intro r hr
    rw [seqs, List.mem_flatMap] at hr
    obtain ⟨x, -, hr⟩ := hr
    obtain ⟨r', hr', rfl⟩ := List.mem_map.mp hr
    rw [List.length_cons, ih r' hr']
theorem seqs_fold (m : Nat) (P : List Nat) (b : Int32 × List Nat) : ((seqs (m + 1)).map (fun r => P ++ r)).foldl (bS f) b = [0, 1, 2, 3].foldl (fun b x => ((seqs m).map (fun r => (P ++ [x]) ++ r)).foldl (bS f) b) b := by
  rw [seqs, List.map_flatMap, List.foldl_flatMap]
  congr 1
  funext b x
  rw [List.map_map]
  congr 2
  funext r
  simp
theorem fold_id {α β : Type} {F : β → α → β} {L : List α} {b : β} (h : ∀ x, x ∈ L → F b x = b) : L.foldl F b = b := by
  induction L with
  | nil => rfl
  | cons a L ih =>
    rw [List.foldl_cons, h a (by simp)]
    exact ih (fun l hl => h l (List.mem_cons_of_mem _ hl))
theorem c_ll_loop {s : Prop} {j : Nat} {Q : Int32 → II → Prop} {k : Int32 → II → Prop} (h : BK s I j f) (hf : WF f) (hk : k (poor f (tn f)) I) : ∀ (d t : Nat), t + d = tn f → ∃ N, wp_X1_leastLeft_5 j Q k N (poor f t) (nI t) I := by
  have hn := hf.n
  intro d
  induction d with
  | zero =>
    intro t ht
    refine ⟨1, ?_⟩
    rw [wp_X1_leastLeft_5.eq_2]
    have c : tn f ≤ t := by omega
    have e : t = tn f := by omega
    simp (disch := omega) only [h.1.2.2.1, hn.1, nIle, c, Bool.true_eq_false, Bool.false_eq_true, false_implies, true_implies, not_true_eq_false, not_false_eq_true, and_true, true_and]
    rw [e]; exact hk
  | succ d ih =>
    intro t ht
    obtain ⟨N, hN⟩ := ih (t + 1) (by omega)
    refine ⟨N + 1, ?_⟩
    rw [wp_X1_leastLeft_5.eq_2]
    have c : ¬ tn f ≤ t := by omega
    have c4 : ¬ 4 ≤ t := by omega
    have t4 : t < 4 := by omega
    have e4 := (h.2.1 t (by omega)).2.2.2.1
    rw [poor] at hN
    simp (disch := omega) only [h.1.2.2.1, hn.1, nIle, c, c4, t4, Bool.true_eq_false, Bool.false_eq_true, false_implies, true_implies, not_true_eq_false, not_false_eq_true, and_true, true_and, nIvp, nIcl, e4, nI_add]
    exact hN
theorem c_leastLeft {s : Prop} {j : Nat} {Q : Int32 → II → Prop} (h : BK s I j f) (hf : WF f) (hq : Q (poor f (tn f)) I) : wp_X1_leastLeft j I Q :=
  c_ll_loop (k := fun x1 I => Q x1 I) h hf hq (tn f) 0 (by omega)
theorem c_sp_loop {s : Prop} {j : Nat} {Q : Int32 → II → Prop} {k : Int32 → II → Prop} {r : Nat} (h : BK s I j f) (hf : WF f) (hk : k (nI r) I) : ∀ (d t a : Nat), t + d = tw f → a + piN f d t = r → ∃ N, wp_X5_sumPaidIn_4 j Q k N (nI a) (nI t) I := by
  have hw := hf.w
  intro d
  induction d with
  | zero =>
    intro t a ht hr
    refine ⟨1, ?_⟩
    rw [wp_X5_sumPaidIn_4.eq_2, h.1.2.2.2.2.2.2.2, hw.1]
    have c : tw f ≤ t := by omega
    simp (disch := omega) only [nIle, c, Bool.true_eq_false, Bool.false_eq_true, false_implies, true_implies, not_true_eq_false, not_false_eq_true, and_true, true_and]
    rw [piN] at hr
    rw [show a = r by omega]; exact hk
  | succ d ih =>
    intro t a ht hr
    have c : ¬ tw f ≤ t := by omega
    have q7 := (hf.q (k := t) (by omega)).2
    have kn := hf.kn (k := t) (by omega)
    obtain ⟨x, x1, x2, ex⟩ := hf.sm q7 kn
    rw [piN] at hr
    obtain ⟨N, hN⟩ := ih (t + 1) (a + (if f (22 + tq f t) = nI 1 then 0 else (f (15 + tq f t)).toNatClampNeg)) (by omega) (by omega)
    refine ⟨N + 1, ?_⟩
    rw [wp_X5_sumPaidIn_4.eq_2, h.1.2.2.2.2.2.2.2, hw.1]
    simp (disch := omega) only [nIle, c, Bool.true_eq_false, Bool.false_eq_true, false_implies, true_implies, not_true_eq_false, not_false_eq_true, and_true, true_and]
    rw [c_paperAt h hf (by omega), c_isDrawing h q7 kn]
    unfold wp_X5_sumPaidIn_36
    rw [nI_add]
    refine gd (fun e => ?_) (fun e => ?_)
    · rw [c_sumOf h q7 kn]
      rw [if_neg (by simpa using e), ex, nI_clamp (by omega)] at hN
      rw [ex, nI_add]; exact hN
    · rw [if_pos (by simpa using e)] at hN
      rw [nI_add]; exact hN
theorem c_sumPaidIn {s : Prop} {j : Nat} {Q : Int32 → II → Prop} (h : BK s I j f) (hf : WF f) (hq : Q (nI (piN f (tw f) 0)) I) : wp_X5_sumPaidIn j I Q :=
  c_sp_loop (k := fun x1 I => Q x1 I) h hf hq (tw f) 0 0 (by omega) (by omega)
theorem piN_le (hf : WF f) : ∀ d k, k + d ≤ tw f → piN f d k ≤ 30 * d := by
  intro d
  induction d with
  | zero => intro k _; exact Nat.le_refl _
  | succ d ih =>
    intro k hk
    have q7 := (hf.q (k := k) (by omega)).2
    obtain ⟨x, x1, x2, ex⟩ := hf.sm q7 (hf.kn (k := k) (by omega))
    have := ih (k + 1) (by omega)
    rw [piN, ex, nI_clamp (by omega)]
    split <;> omega
end SHR2

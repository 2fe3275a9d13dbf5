/-! ===== share: what it is; the reference tries all ways ===== -/
def dig : Nat → Nat → List Nat
  | 0, _ => []
  | n + 1, w => (w / 4 ^ n % 4) :: dig n w
theorem dig_mod : ∀ (n w x : Nat), dig n (x * 4 ^ n + w) = dig n w := by
  intro n
  induction n with
  | zero => intro w x; rfl
  | succ n ih =>
    intro w x
    have p0 : 0 < 4 ^ n := Nat.pow_pos (by omega)
    have e1 : x * 4 ^ (n + 1) + w = (4 * x) * 4 ^ n + w := by rw [Nat.pow_succ, Nat.mul_comm (4 ^ n) 4, ← Nat.mul_assoc, Nat.mul_comm x 4]
    rw [dig, dig, e1, ih w (4 * x), Nat.add_comm, Nat.add_mul_div_right _ _ p0]
    congr 1
    omega
theorem seqs_dig : ∀ n, seqs n = (List.range' 0 (4 ^ n)).map (dig n) := by
  intro n
  induction n with
  | zero => rfl
  | succ n ih =>
    have p0 : 0 < 4 ^ n := Nat.pow_pos (by omega)
    have blk : ∀ x, x < 4 → (List.range' (x * 4 ^ n) (4 ^ n)).map (dig (n + 1)) = (seqs n).map (fun r => x :: r) := fun x hx => by
      have e : List.range' (x * 4 ^ n) (4 ^ n) = (List.range' 0 (4 ^ n)).map (fun v => x * 4 ^ n + v) := by
        rw [List.map_add_range', Nat.add_zero]
      rw [e, ih, List.map_map, List.map_map]
      refine List.map_congr_left (fun v hv => ?_)
      rw [List.mem_range'_1] at hv
      show dig (n + 1) (x * 4 ^ n + v) = x :: dig n v
      rw [dig, dig_mod, Nat.add_comm, Nat.add_mul_div_right _ _ p0, Nat.div_eq_of_lt (by omega), Nat.zero_add, Nat.mod_eq_of_lt hx]
    have sp : List.range' 0 (4 ^ (n + 1)) = List.range' (0 * 4 ^ n) (4 ^ n) ++ (List.range' (1 * 4 ^ n) (4 ^ n) ++ (List.range' (2 * 4 ^ n) (4 ^ n) ++ List.range' (3 * 4 ^ n) (4 ^ n))) := by
      have a1 := List.range'_append_1 (s := 2 * 4 ^ n) (m := 4 ^ n) (n := 4 ^ n)
      have a2 := List.range'_append_1 (s := 1 * 4 ^ n) (m := 4 ^ n) (n := 4 ^ n + 4 ^ n)
      have a3 := List.range'_append_1 (s := 0 * 4 ^ n) (m := 4 ^ n) (n := 4 ^ n + (4 ^ n + 4 ^ n))
      rw [show 2 * 4 ^ n + 4 ^ n = 3 * 4 ^ n by omega] at a1
      rw [show 1 * 4 ^ n + 4 ^ n = 2 * 4 ^ n by omega] at a2
      rw [show 0 * 4 ^ n + 4 ^ n = 1 * 4 ^ n by omega] at a3
      rw [a1, a2, a3]
      congr 1
      · omega
      · rw [Nat.pow_succ]; omega
    rw [sp, List.map_append, List.map_append, List.map_append, blk 0 (by omega), blk 1 (by omega), blk 2 (by omega), blk 3 (by omega)]
    simp [seqs]
def okS (g : TW) (k t : Nat) : Bool := decide (t < tn g) && (!decide (g (22 + tq g k) = nI 1) || pyT g t (g (15 + tq g k)))
theorem srvS_c (g : TW) (k t : Nat) (l : List Nat) : srvS g k (t :: l) = if okS g k t then srvS (takeT g t (tq g k)) (k + 1) l else none := rfl
section SHR1
variable {I : II} {f g : TW}
theorem take_q {t p q : Nat} (h : q < 41) : takeT g t p q = g q := upd_ne (by omega)
theorem take_n {t p : Nat} : tn (takeT g t p) = tn g := by rw [tn, take_q (by omega)]; rfl
theorem take_w {t p : Nat} : tw (takeT g t p) = tw g := by rw [tw, take_q (by omega)]; rfl
theorem okS_t {k t : Nat} (h : okS g k t = true) : t < tn g ∧ (g (22 + tq g k) = nI 1 → pyT g t (g (15 + tq g k)) = true) := by
  unfold okS at h
  rw [Bool.and_eq_true, decide_eq_true_eq] at h
  refine ⟨h.1, fun e => ?_⟩
  have h2 := h.2
  rw [decide_eq_true e] at h2
  simpa using h2
theorem WF.take (hg : WF g) {k t : Nat} (hk : k < tw g) (h : okS g k t = true) : WF (takeT g t (tq g k)) := by
  obtain ⟨h1, h2⟩ := okS_t h
  have q7 := (hg.q hk).2
  refine hg.ch (fun q hq => take_q (by omega)) (fun u hu => ?_)
  by_cases e : u = t
  · subst e
    rw [takeT, upd_eq]
    exact lfT_ok hg h1 q7 (hg.kn hk) h2
  · rw [takeT, upd_ne (by omega)]; exact (hg.te hu).2.2.2
theorem m_pa_loop {b : Nat} {Q : Int32 → II → Prop} {k : Int32 → II → Prop} (hb : b ≤ 1323) (hf : WF f) (hk : k (poor f (tn f)) (pT I b f)) : ∀ (d t : Nat), t + d = tn f → ∃ N, wp_X8_poorestAt_5 Q k N (nI b) (poor f t) (nI t) (pT I b f) := by
  have hn := hf.n
  have g0 : b + 0 < 1372 := by omega
  intro d
  induction d with
  | zero =>
    intro t ht
    refine ⟨1, ?_⟩
    rw [wp_X8_poorestAt_5.eq_2]
    have c : tn f ≤ t := by omega
    have e : t = tn f := by omega
    simp (disch := omega) only [nI_add, Nat.add_assoc, nIvp, nIcl, pT_get, g0, hn.1, nIle, c, Bool.true_eq_false, Bool.false_eq_true, false_implies, true_implies, not_true_eq_false, not_false_eq_true, and_true, true_and]
    rw [e]; exact hk
  | succ d ih =>
    intro t ht
    obtain ⟨N, hN⟩ := ih (t + 1) (by omega)
    refine ⟨N + 1, ?_⟩
    rw [wp_X8_poorestAt_5.eq_2]
    have c : ¬ tn f ≤ t := by omega
    have g4 : b + (41 + t) < 1372 := by omega
    rw [poor] at hN
    simp (disch := omega) only [nI_add, Nat.add_assoc, nIvp, nIcl, pT_get, g0, g4, hn.1, nIle, c, Bool.true_eq_false, Bool.false_eq_true, false_implies, true_implies, not_true_eq_false, not_false_eq_true, and_true, true_and, wp_X8_poorestAt_47]
    refine ⟨fun e => ?_, fun e => ?_⟩
    · rw [i32_le] at e
      rw [if_neg e] at hN; exact hN
    · rw [i32_le, Classical.not_not] at e
      rw [if_pos e] at hN; exact hN
theorem m_poorestAt {b : Nat} {Q : Int32 → II → Prop} (hb : b ≤ 1323) (hf : WF f) (hq : Q (poor f (tn f)) (pT I b f)) : wp_X8_poorestAt (nI b) (pT I b f) Q :=
  m_pa_loop (k := fun x2 I => Q x2 I) hb hf hq (tn f) 0 (by omega)
theorem dig_i {w W m k : Nat} (hw : w < 2147483648) (hW : W ≤ 7) (hk : k + (m + 1) = W) : (nI w >>> ((nI 2 * (nI W - nI 1 - nI k)) &&& 31)) &&& nI 3 = nI (w / 4 ^ m % 4) := by
  have e1 : nI 2 * (nI W - nI 1 - nI k) = nI (2 * m) := by rw [nIsub (by omega), nIsub (by omega), pk_mul]; congr 2; omega
  have e2 : (2 : Nat) ^ (2 * m) = 4 ^ m := by rw [Nat.pow_mul]
  rw [e1, pk_shrN (by omega) _ (2 * m) (s_l (2 * m) (by omega)), e2, pk_andN (by have := Nat.div_le_self w (4 ^ m); omega) 2 (by decide)]
theorem m_sb_loop {Q : Int32 → II → Prop} {k81 k100 : II → Prop} {w : Nat} {R : Option TW} (hf : WF f) (hI : TNW I f) (hw : w < 2147483648) (h1 : R = none → ∀ h, k81 (pT I 1323 h)) (h2 : ∀ h, R = some h → WF h → tn h = tn f → k100 (pT I 1323 h)) : ∀ (m k : Nat) (g : TW), k + m = tw f → WF g → (∀ q, q < 41 → g q = f q) → srvS g k (dig m w) = R → ∃ N, wp_X8_servesBy_7 Q k81 k100 N (nI w) (nI (tw f)) (nI k) (pT I 1323 g) := by
  have hW := hf.w
  intro m
  induction m with
  | zero =>
    intro k g hk hg hs hr
    refine ⟨1, ?_⟩
    rw [wp_X8_servesBy_7.eq_2]
    have c : tw f ≤ k := by omega
    simp (disch := omega) only [nIle, c, Bool.true_eq_false, Bool.false_eq_true, false_implies, true_implies, not_true_eq_false, not_false_eq_true, and_true, true_and]
    exact h2 g hr.symm hg (by rw [tn, hs 0 (by omega)]; rfl)
  | succ m ih =>
    intro k g hk hg hs hr
    have c : ¬ tw f ≤ k := by omega
    have q7 := hf.q (k := k) (by omega)
    have n4 := hf.n.2
    have en : tn g = tn f := by rw [tn, hs 0 (by omega)]; rfl
    have eq : tq g k = tq f k := by rw [tq, hs _ (by omega)]; rfl
    have ew : tw g = tw f := by rw [tw, hs 7 (by omega)]; rfl
    have e8 : pT I 1323 g 316 (8 + k) = nI (tq f k) := by rw [(hI.pT g).1 _ (by omega), q7.1]
    have e22 : pT I 1323 g 316 (22 + tq f k) = f (22 + tq f k) := (hI.pT g).1 _ (by omega)
    have e15 : pT I 1323 g 316 (15 + tq f k) = f (15 + tq f k) := (hI.pT g).1 _ (by omega)
    have g8 : 8 + k < 1372 := by omega
    have g22 : 22 + tq f k < 1372 := by omega
    have g15 : 15 + tq f k < 1372 := by omega
    have d4 : w / 4 ^ m % 4 < 4 := Nat.mod_lt _ (by omega)
    rw [dig, srvS_c] at hr
    have hok : okS g k (w / 4 ^ m % 4) = (decide (w / 4 ^ m % 4 < tn f) && (!decide (f (22 + tq f k) = nI 1) || pyT g (w / 4 ^ m % 4) (f (15 + tq f k)))) := by
      unfold okS; rw [en, eq, hs (22 + tq f k) (by omega), hs (15 + tq f k) (by omega)]
    have hT' : hT f (nI (w / 4 ^ m % 4)) = decide (w / 4 ^ m % 4 < tn f) := hT_nI hf (by omega)
    cases ho : okS g k (w / 4 ^ m % 4) with
    | true =>
      rw [if_pos ho, eq] at hr
      have wt := hg.take (k := k) (by rw [ew]; omega) ho
      rw [eq] at wt
      obtain ⟨N, hN⟩ := ih (k + 1) _ (by omega) wt (fun q hq => by rw [take_q hq]; exact hs q hq) hr
      refine ⟨N + 1, ?_⟩
      rw [wp_X8_servesBy_7.eq_2, dig_i hw hW.2 hk, m_isTeller (hI.pT g).1 hf, hT', i1_0]
      rw [hok] at ho
      have ho1 : decide (w / 4 ^ m % 4 < tn f) = true := by
        have := ho; rw [Bool.and_eq_true] at this; exact this.1
      have fin : wp_X8_servesBy_83 Q (fun x1 x2 x3 I => wp_X8_servesBy_7 Q k81 k100 N x1 x2 x3 I) (nI w) (nI (tw f)) (nI k) (nI (w / 4 ^ m % 4)) (nI (tq f k)) (pT I 1323 g) := by
        unfold wp_X8_servesBy_83
        rw [m_takeFrom (by omega) d4 q7.2, nI_add]
        exact hN
      simp (disch := omega) only [nIle, c, Bool.true_eq_false, Bool.false_eq_true, false_implies, true_implies, not_true_eq_false, not_false_eq_true, and_true, true_and, ho1, nI_add, nIvp, nIcl, g8, g22, g15, e8, e22, e15, m_mayPay, i1_0]
      refine ⟨fun _ => fin, fun e => ⟨fun _ => fin, fun e2 => ?_⟩⟩
      rw [ho1, decide_eq_true e, e2] at ho
      exact absurd ho (by decide)
    | false =>
      rw [if_neg (by rw [ho]; decide)] at hr
      have h1 := h1 hr.symm
      refine ⟨1, ?_⟩
      rw [wp_X8_servesBy_7.eq_2, dig_i hw hW.2 hk, m_isTeller (hI.pT g).1 hf, hT', i1_0]
      rw [hok] at ho
      simp (disch := omega) only [nIle, c, Bool.true_eq_false, Bool.false_eq_true, false_implies, true_implies, not_true_eq_false, not_false_eq_true, and_true, true_and, nI_add, nIvp, nIcl, g8, g22, g15, e8, e22, e15, m_mayPay, i1_0]
      refine ⟨fun _ => h1 g, fun e => ⟨fun e2 => ?_, fun e2 => ⟨fun e3 => ?_, fun _ => h1 g⟩⟩⟩
      · have e : decide (w / 4 ^ m % 4 < tn f) = true := by simpa using e
        rw [e, decide_eq_false e2] at ho; exact absurd ho (by simp)
      · have e : decide (w / 4 ^ m % 4 < tn f) = true := by simpa using e
        have e3 : pyT g (w / 4 ^ m % 4) (f (15 + tq f k)) = true := by simpa using e3
        rw [e, decide_eq_true e2, e3] at ho; exact absurd ho (by decide)
theorem poor_nI (hg : WF g) : ∀ n, n ≤ tn g → ∃ c, c ≤ 99 ∧ poor g n = nI c := by
  intro n
  induction n with
  | zero => intro _; exact ⟨99, Nat.le_refl _, rfl⟩
  | succ n ih =>
    intro hn
    obtain ⟨c, hc, e⟩ := ih (by omega)
    obtain ⟨l, hl, el⟩ := (hg.te (t := n) (by omega)).2.2.2
    rw [poor]
    split
    · exact ⟨l, hl, el⟩
    · exact ⟨c, hc, e⟩
theorem srvS_wf : ∀ (l : List Nat) (k : Nat) (g h : TW), WF g → k + l.length ≤ tw g → srvS g k l = some h → WF h ∧ tn h = tn g := by
  intro l
  induction l with
  | nil => intro k g h hg _ e; rw [srvS] at e; cases e; exact ⟨hg, rfl⟩
  | cons t l ih =>
    intro k g h hg hk e
    rw [List.length_cons] at hk
    rw [srvS_c] at e
    cases ho : okS g k t with
    | false => rw [if_neg (by rw [ho]; decide)] at e; cases e
    | true =>
      rw [if_pos ho] at e
      obtain ⟨a, b⟩ := ih (k + 1) _ h (hg.take (by omega) ho) (by rw [take_w]; omega) e
      exact ⟨a, by rw [b, take_n]⟩
def SBM (f : TW) (b : Int32 × List Nat) (x3 x4 : Int32) : Prop := x4 = b.1 ∧ ((b.1 = (-nI 1000000) ∧ x3 = (-nI 1000000)) ∨ (¬ b.1 = (-nI 1000000) ∧ ∃ v, v < 4 ^ tw f ∧ x3 = nI v ∧ b.2 = dig (tw f) v))
theorem shl2 {n : Nat} (h : n ≤ 7) : (nI 1 : Int32) <<< ((nI 2 * nI n) &&& 31) = nI (4 ^ n) := by
  have : n = 0 ∨ n = 1 ∨ n = 2 ∨ n = 3 ∨ n = 4 ∨ n = 5 ∨ n = 6 ∨ n = 7 := by omega
  rcases this with rfl | rfl | rfl | rfl | rfl | rfl | rfl | rfl <;> decide
theorem m_sh_loop {Q : Int32 → II → Prop} {k : Int32 → Int32 → Int32 → Int32 → II → Prop} {x1 : Int32} {r : Int32 × List Nat} (hf : WF f) (hk : ∀ J x3 x4, FRA I J → SBM f r x3 x4 → k x1 (nI (tw f)) x3 x4 J) : ∀ (d w : Nat) (b : Int32 × List Nat) (x3 x4 : Int32) (J : II), w + d = 4 ^ tw f → ((List.range' w d).map (dig (tw f))).foldl (bS f) b = r → SBM f b x3 x4 → FRA I J → TNW J f → wp_X8_share_36 Q k (d + 1) x1 (nI (tw f)) x3 x4 (nI w) J := by
  have hw := hf.w
  have p4 : 4 ^ tw f ≤ 4 ^ 7 := Nat.pow_le_pow_right (by omega) hw.2
  intro d
  induction d with
  | zero =>
    intro w b x3 x4 J hwd hr hb ho hj
    rw [wp_X8_share_36.eq_2, shl2 hw.2]
    have c : 4 ^ tw f ≤ w := by omega
    simp (disch := omega) only [nIle, c, Bool.true_eq_false, Bool.false_eq_true, false_implies, true_implies, not_true_eq_false, not_false_eq_true, and_true, true_and]
    have hr : b = r := hr
    subst hr
    exact hk J x3 x4 ho hb
  | succ d ih =>
    intro w b x3 x4 J hwd hr hb ho hj
    rw [wp_X8_share_36.eq_2, shl2 hw.2]
    have c : ¬ 4 ^ tw f ≤ w := by omega
    simp (disch := omega) only [nIle, c, Bool.true_eq_false, Bool.false_eq_true, false_implies, true_implies, not_true_eq_false, not_false_eq_true, and_true, true_and, wp_X8_share_80, nI_add]
    rw [List.range'_succ, List.map_cons, List.foldl_cons] at hr
    unfold wp_X8_servesBy
    refine m_layTried hf hj.1 (by omega) ?_
    refine m_sb_loop (R := srvS f 0 (dig (tw f) w)) hf hj (by omega) (fun e h => ?_) (fun h e wh nh => ?_) (tw f) 0 f (by omega) hf (fun _ _ => rfl) rfl
    · have fr := FRA.pT J h
      have eb : bS f b (dig (tw f) w) = b := by unfold bS; rw [e]
      rw [eb] at hr
      exact ⟨fun _ => ih (w + 1) b x3 x4 _ (by omega) hr hb (ho.tr fr) (hj.fr fr), fun z => absurd nI_0 z⟩
    · have fr := FRA.pT J h
      refine ⟨fun z => absurd z (by decide), fun _ => ?_⟩
      refine m_poorestAt (by omega) wh ?_
      have eb : bS f b (dig (tw f) w) = if b.1 < poor h (tn f) then (poor h (tn f), dig (tw f) w) else b := by unfold bS; rw [e]
      rw [eb] at hr
      rw [nh, hb.1]
      refine ⟨fun z => ?_, fun z => ?_⟩
      · rw [i32_le] at z
        rw [if_neg z] at hr
        refine ih (w + 1) b x3 _ _ (by omega) hr ⟨rfl, hb.2⟩ (ho.tr fr) (hj.fr fr)
      · rw [i32_le, Classical.not_not] at z
        rw [if_pos z] at hr
        refine m_poorestAt (by omega) wh ?_
        rw [nh]
        obtain ⟨pc, h99, ep⟩ := poor_nI wh (tn f) (by omega)
        refine ih (w + 1) _ _ _ _ (by omega) hr ⟨rfl, Or.inr ⟨?_, w, by omega, rfl, rfl⟩⟩ (ho.tr fr) (hj.fr fr)
        show ¬ poor h (tn f) = (-nI 1000000)
        rw [ep, nIneg (by omega) (by omega) (by omega)]; exact not_false
end SHR1

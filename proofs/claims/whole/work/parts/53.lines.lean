/-! ===== lines in their order ===== -/
/-- b is the line next to a -/
def NX (a b : List Nat) : Prop := ∃ P x y A B, a = P ++ x :: (A ++ y :: B).reverse ∧ b = P ++ y :: (A ++ x :: B) ∧ (A ++ x :: y :: B).Pairwise (· < ·)
def EN (a : List Nat) : Prop := a.Pairwise (fun p q => q < p)
def ChI : List (List Nat) → Prop
  | [] => True
  | [_] => True
  | a :: b :: r => NX a b ∧ ChI (b :: r)
theorem NX.cons {a b : List Nat} (x : Nat) (h : NX a b) : NX (x :: a) (x :: b) := by
  obtain ⟨P, u, v, A, B, h1, h2, h3⟩ := h
  exact ⟨x :: P, u, v, A, B, by rw [h1]; rfl, by rw [h2]; rfl, h3⟩
theorem ChI.map {L : List (List Nat)} (x : Nat) (h : ChI L) : ChI (L.map (fun r => x :: r)) := by
  induction L with
  | nil => trivial
  | cons a L ih =>
    cases L with
    | nil => trivial
    | cons b L => exact ⟨h.1.cons x, ih h.2⟩
theorem ChI.app {L M : List (List Nat)} {t h : List Nat} (h1 : ChI (L ++ [t])) (h2 : ChI (h :: M)) (h3 : NX t h) : ChI ((L ++ [t]) ++ (h :: M)) := by
  induction L with
  | nil => exact ⟨h3, h2⟩
  | cons a L ih =>
    cases L with
    | nil => exact ⟨h1.1, h3, h2⟩
    | cons b L => exact ⟨h1.1, ih h1.2⟩
theorem er_mid {A B : List Nat} {x : Nat} (h : (A ++ x :: B).Pairwise (· < ·)) : (A ++ x :: B).erase x = A ++ B := by
  have hx : x ∉ A := fun m => by
    have := (List.pairwise_append.mp h).2.2 x m x (by simp)
    omega
  rw [List.erase_append_right _ hx, List.erase_cons_head]
def blk (n : Nat) (l R : List Nat) : List (List Nat) := R.flatMap (fun x => (prm n (l.erase x)).map (fun r => x :: r))
theorem prm_chain : ∀ (n : Nat) (l : List Nat), l.length = n → l.Pairwise (· < ·) → (∃ M, prm n l = l :: M) ∧ (∃ M, prm n l = M ++ [l.reverse]) ∧ ChI (prm n l) := by
  intro n
  induction n with
  | zero =>
    intro l hl _
    have : l = [] := List.length_eq_zero_iff.mp hl
    subst this
    exact ⟨⟨[], rfl⟩, ⟨[], rfl⟩, trivial⟩
  | succ n ih =>
    intro l hl hp
    have sub : ∀ (R A : List Nat) (x : Nat), l = A ++ x :: R → (∃ M, blk n l (x :: R) = (x :: (A ++ R)) :: M) ∧ (∃ M, blk n l (x :: R) = M ++ [l.reverse]) ∧ ChI (blk n l (x :: R)) := by
      intro R
      induction R with
      | nil =>
        intro A x e
        have er : l.erase x = A ++ [] := by rw [e]; rw [e] at hp; exact er_mid hp
        have hA : (A ++ []).length = n := by rw [e] at hl; simp at hl ⊢; omega
        have pA : (A ++ []).Pairwise (· < ·) := by
          rw [e] at hp
          exact hp.sublist (List.Sublist.append_left (List.nil_sublist _) A)
        obtain ⟨⟨M1, h1⟩, ⟨M2, h2⟩, h3⟩ := ih _ hA pA
        have eb : blk n l [x] = (prm n (A ++ [])).map (fun r => x :: r) := by simp [blk, er]
        rw [eb]
        refine ⟨⟨M1.map (fun r => x :: r), by rw [h1]; rfl⟩, ⟨M2.map (fun r => x :: r), ?_⟩, h3.map x⟩
        rw [h2, e]
        simp
      | cons y R ihR =>
        intro A x e
        have er : l.erase x = A ++ (y :: R) := by rw [e]; rw [e] at hp; exact er_mid hp
        have hA : (A ++ (y :: R)).length = n := by rw [e] at hl; simp at hl ⊢; omega
        have pA : (A ++ (y :: R)).Pairwise (· < ·) := by
          rw [e] at hp
          exact hp.sublist (List.Sublist.append_left (List.sublist_cons_self _ _) A)
        obtain ⟨⟨M1, h1⟩, ⟨M2, h2⟩, h3⟩ := ih _ hA pA
        have e2 : l = (A ++ [x]) ++ y :: R := by rw [e]; simp
        obtain ⟨⟨N1, g1⟩, ⟨N2, g2⟩, g3⟩ := ihR (A ++ [x]) y e2
        have eb : blk n l (x :: y :: R) = (prm n (A ++ (y :: R))).map (fun r => x :: r) ++ blk n l (y :: R) := by
          simp only [blk, List.flatMap_cons, er]
        refine ⟨⟨M1.map (fun r => x :: r) ++ blk n l (y :: R), by rw [eb, h1]; rfl⟩, ⟨(prm n (A ++ (y :: R))).map (fun r => x :: r) ++ N2, by rw [eb, g2, List.append_assoc]⟩, ?_⟩
        have hm := h3.map x
        rw [eb]
        rw [h2, List.map_append] at hm ⊢
        rw [g1] at g3 ⊢
        refine ChI.app hm g3 ⟨[], x, y, A, R, rfl, ?_, by rw [← e]; exact hp⟩
        simp
    cases l with
    | nil => simp at hl
    | cons c T =>
      obtain ⟨⟨M1, h1⟩, h2, h3⟩ := sub T [] c rfl
      have eb : prm (n + 1) (c :: T) = blk n (c :: T) (c :: T) := rfl
      rw [eb]
      exact ⟨⟨M1, h1⟩, h2, h3⟩
theorem prm_mem : ∀ (n : Nat) (l r : List Nat), r ∈ prm n l → l.length = n → l.Nodup → r.length = n ∧ r.Nodup ∧ ∀ p, p ∈ r → p ∈ l := by
  intro n
  induction n with
  | zero =>
    intro l r hr _ _
    have : r = [] := by simpa [prm] using hr
    subst this
    exact ⟨rfl, List.nodup_nil, fun p hp => absurd hp (by simp)⟩
  | succ n ih =>
    intro l r hr hl hn
    rw [prm, List.mem_flatMap] at hr
    obtain ⟨x, hx, hr⟩ := hr
    obtain ⟨r', hr', rfl⟩ := List.mem_map.mp hr
    have le : (l.erase x).length = n := by rw [List.length_erase_of_mem hx]; omega
    obtain ⟨a, b, c⟩ := ih (l.erase x) r' hr' le (hn.erase x)
    refine ⟨by simp [a], List.nodup_cons.mpr ⟨fun m => ?_, b⟩, fun p hp => ?_⟩
    · have := c x m
      exact absurd this (hn.not_mem_erase)
    · rcases List.mem_cons.mp hp with rfl | hp
      · exact hx
      · exact List.mem_of_mem_erase (c p hp)
theorem getA (P D : List Nat) (x : Nat) : (P ++ x :: D).getD P.length 0 = x := by
  induction P with
  | nil => rfl
  | cons a P ih => exact ih
theorem getB (P D : List Nat) (x i : Nat) : (P ++ x :: D).getD (P.length + 1 + i) 0 = D.getD i 0 := by
  induction P with
  | nil => simp [Nat.add_comm]
  | cons a P ih =>
    have : (a :: P).length + 1 + i = (P.length + 1 + i) + 1 := by simp; omega
    rw [this]; exact ih
theorem setA (P D : List Nat) (x y : Nat) : (P ++ x :: D).set P.length y = P ++ y :: D := by
  induction P with
  | nil => rfl
  | cons a P ih =>
    show a :: ((P ++ x :: D).set P.length y) = a :: (P ++ y :: D)
    rw [ih]
theorem pw_get {R : Nat → Nat → Prop} {l : List Nat} (h : l.Pairwise R) {i j : Nat} (hi : i < j) (hj : j < l.length) : R (l.getD i 0) (l.getD j 0) := by
  have := List.pairwise_iff_getElem.mp h i j (by omega) hj hi
  rw [List.getD_eq_getElem?_getD, List.getD_eq_getElem?_getD, List.getElem?_eq_getElem (by omega), List.getElem?_eq_getElem hj]
  exact this

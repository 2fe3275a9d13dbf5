/-! ===== the two objects as the pool ===== -/
def I0 : II := fun a => if a = 298 then ln0 else if a = 319 then sz0 else if a = 316 then mr 7 else zf
theorem I0_z {a : Nat} (h1 : a ≠ 298) (h2 : a ≠ 319) (h3 : a ≠ 316) : I0 a = zf := by unfold I0; rw [if_neg h1, if_neg h2, if_neg h3]
theorem f0_WF : WF f0 := by
  refine ⟨⟨?_, ?_⟩, ⟨?_, ?_⟩, fun k hk => ?_, fun i k hi hk _ => ?_, fun p hp => ?_, fun k hk => ?_, fun p hp hk => ?_, fun t ht => ?_, fun h0 => ?_⟩
  · rw [f0_n]; rfl
  · rw [f0_n]; omega
  · rw [f0_w]; rfl
  · rw [f0_w]; omega
  · rw [f0_w] at hk; omega
  · rw [f0_w] at hi; omega
  · left; unfold f0; rw [if_pos (by omega)]
  · rw [f0_w] at hk; omega
  · exfalso; apply hk
    unfold f0; rw [if_pos (by omega)]
  · rw [f0_n] at ht; omega
  · rw [f0_n] at h0; omega
theorem ln0_at {r : Nat} (h : r < 8) : ln0 r = -nI 1000000 := by
  have : r = 0 ∨ r = 1 ∨ r = 2 ∨ r = 3 ∨ r = 4 ∨ r = 5 ∨ r = 6 ∨ r = 7 := by omega
  rcases this with rfl | rfl | rfl | rfl | rfl | rfl | rfl | rfl <;> decide
theorem sz0_at {r : Nat} (h : r < 8) : sz0 r = -nI 1 := by
  have : r = 0 ∨ r = 1 ∨ r = 2 ∨ r = 3 ∨ r = 4 ∨ r = 5 ∨ r = 6 ∨ r = 7 := by omega
  rcases this with rfl | rfl | rfl | rfl | rfl | rfl | rfl | rfl <;> decide
theorem I0_INV : INV I0 := by
  have z : ∀ a k, a ≠ 298 → a ≠ 319 → a ≠ 316 → I0 a k = nI 0 := fun a k h1 h2 h3 => by rw [I0_z h1 h2 h3]; rfl
  have t0 : tn f0 = 0 := f0_n
  have w0 : tw f0 = 0 := f0_w
  refine ⟨f0, 0, 0, fun _ => f0, ⟨f0_WF, fun _ => w0, by omega, fun h => by omega, fun i h => by omega⟩, ⟨⟨⟨z _ _ (by omega) (by omega) (by omega), z _ _ (by omega) (by omega) (by omega), z _ _ (by omega) (by omega) (by omega), z _ _ (by omega) (by omega) (by omega), z _ _ (by omega) (by omega) (by omega), z _ _ (by omega) (by omega) (by omega), z _ _ (by omega) (by omega) (by omega), z _ _ (by omega) (by omega) (by omega)⟩, fun t h => by omega, fun k h => by omega, fun p h => ?_, fun p h g => ?_⟩, z _ _ (by omega) (by omega) (by omega), z _ _ (by omega) (by omega) (by omega), by omega, fun i h => by omega⟩, ⟨fun q hq => ?_, z _ _ (by omega) (by omega) (by omega), ?_, fun i h => by omega⟩, ⟨Or.inl (z _ _ (by omega) (by omega) (by omega)), Or.inl (z _ _ (by omega) (by omega) (by omega))⟩, fun k hk => Or.inl ⟨z _ _ (by omega) (by omega) (by omega), z _ _ (by omega) (by omega) (by omega)⟩, fun r hr => Or.inl ⟨?_, z _ _ (by omega) (by omega) (by omega), ?_⟩, ⟨0, by omega, z _ _ (by omega) (by omega) (by omega), z _ _ (by omega) (by omega) (by omega), fun i h => by omega⟩, ⟨rfl, rfl⟩, ⟨0, by omega, z _ _ (by omega) (by omega) (by omega), z _ _ (by omega) (by omega) (by omega), fun i h => by omega⟩⟩
  · rw [z _ _ (by omega) (by omega) (by omega), hasB_bt (by omega), b_n0]
    unfold f0; rw [if_pos (by omega)]; simp
  · exfalso; apply g
    unfold f0; rw [if_pos (by omega)]
  · show mr 7 q = f0 q
    unfold mr f0
    by_cases c : 22 ≤ q ∧ q ≤ 28
    · rw [if_pos (by omega), if_pos c]
    · rw [if_neg (by omega), if_neg c]; rfl
  · rw [z _ _ (by omega) (by omega) (by omega), t0]; rfl
  · exact ln0_at hr
  · exact sz0_at hr
-- places
def gx (k : Nat) : Nat := if k < 8 then 15 + k else if k < 16 then k - 1 else if k < 24 then k + 219 else if k < 40 then k + 194 else if k < 232 then k - 15 else if k < 296 then k + 17 else if k = 296 then 0 else if k < 303 then k - 296 else if k < 305 then k - 280 else if k = 305 then 217 else if k = 306 then 234 else if k = 307 then 243 else if k < 313 then k - 64 else k
def gi (n : Nat) : Nat := if n = 0 then 296 else if n < 7 then n + 296 else if n < 15 then n + 1 else if n < 23 then n - 15 else if n < 25 then n + 280 else if n < 217 then n + 15 else if n = 217 then 305 else if n < 234 then n - 194 else if n = 234 then 306 else if n < 243 then n - 219 else if n = 243 then 307 else if n < 249 then n + 64 else if n < 313 then n - 17 else n
theorem gi_gx : ∀ k, k < 325 → gi (gx k) = k := by decide +kernel
theorem ga {l1 l2 : va_W} {a : Nat} (h : l1.length = a) (i : Nat) : (l1 ++ l2)[a + i]? = l2[i]? := by
  rw [List.getElem?_append_right (by omega)]
  congr 1
  omega
theorem gb {l1 l2 : va_W} {a i : Nat} (h : l1.length = a) (hi : i < a) : (l1 ++ l2)[i]? = l1[i]? := List.getElem?_append_left (by omega)
section ASM
variable {T : ClassId × ClassId × ClassId}
theorem bk8_len {h : Nat → Nat} : (bk8 T h).length = 8 := rfl
theorem bks_len {hb : Nat → Nat → Nat} : ∀ n, (bks T hb n).length = 8 * n := by
  intro n
  induction n with
  | zero => rfl
  | succ n ih => rw [bks, List.length_append, ih, bk8_len]; omega
theorem bks_at {hb : Nat → Nat → Nat} {i r : Nat} (hr : r < 8) : ∀ n, i < n → (bks T hb n)[8 * i + r]? = (bk8 T (hb i))[r]? := by
  intro n
  induction n with
  | zero => intro h; omega
  | succ n ih =>
    intro h
    rw [bks]
    by_cases e : i = n
    · subst e; exact ga (bks_len i) r
    · rw [gb (bks_len n) (by omega)]; exact ih (by omega)
theorem qc {cA : ClassId} {n : Nat} {f g : Nat → Option Nat} (h : ∀ i, i < n → f i = g i) : vp_cell cA (n, .inr (.inr (.inr (.inr f)))) = vp_cell cA (n, .inr (.inr (.inr (.inr g)))) := by
  rw [vp_cell_q, vp_cell_q]
  unfold arrV
  congr 2
  funext j
  show va_rf (f j.val) = va_rf (g j.val)
  rw [h j.val j.isLt]
theorem bank_cell {E : EE} {j r : Nat} (hj : j < 37) (hr : r < 8) {h : Nat → Nat} (hh : ∀ i, i < 8 → E.2.1 (8 * j + i) = h i) : (bk8 E.2.2.1 h)[r]? = some (E.2.1 (8 * j + r), cellOf E (8 * j + r) (I0 (8 * j + r))) := by
  have h0 : E.2.1 (8 * j) = h 0 := hh 0 (by omega)
  have hz : I0 (8 * j + r) = zf := I0_z (by omega) (by omega) (by omega)
  rw [hz, hh r hr]
  by_cases r0 : r = 0
  · subst r0
    rw [Nat.add_zero, ob_b hj]
    unfold bankFs
    rw [hh 1 (by omega), hh 2 (by omega), hh 3 (by omega), hh 4 (by omega), hh 5 (by omega), hh 6 (by omega), hh 7 (by omega)]
    rfl
  · rw [(ar_b (E := E) r hj (by omega) hr).2]
    have : r = 1 ∨ r = 2 ∨ r = 3 ∨ r = 4 ∨ r = 5 ∨ r = 6 ∨ r = 7 := by omega
    rcases this with rfl | rfl | rfl | rfl | rfl | rfl | rfl <;> rfl
end ASM

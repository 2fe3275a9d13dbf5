def ba (hn hd hg hi0 hi1 : Nat → Nat) (hk hl : Nat → Nat → Nat) (j : Nat) : Nat → Nat := if j = 0 then hn else if j = 1 then hd else if j = 2 then hg else if j = 3 then hi0 else if j = 4 then hi1 else if j < 29 then hk (j - 5) else hl (j - 29)
def ad (hn hd hg hi0 hi1 : Nat → Nat) (hk hl : Nat → Nat → Nat) (h0 q1 r1 r2 r3 q3 tb q7 ka q9 q14 ft q16 s1 s2 s3 s4 q18 an m0 m1 m2 m3 m4 m5 m6 m7 m8 m9 : Nat) (k : Nat) : Nat := if k < 296 then ba hn hd hg hi0 hi1 hk hl (k / 8) (k % 8) else if k = 296 then h0 else if k = 297 then q1 else if k = 298 then r1 else if k = 299 then r2 else if k = 300 then r3 else if k = 301 then q3 else if k = 302 then tb else if k = 303 then q7 else if k = 304 then ka else if k = 305 then q9 else if k = 306 then q14 else if k = 307 then ft else if k = 308 then q16 else if k = 309 then s1 else if k = 310 then s2 else if k = 311 then s3 else if k = 312 then s4 else if k = 313 then q18 else if k = 314 then an else if k = 315 then m0 else if k = 316 then m1 else if k = 317 then m2 else if k = 318 then m3 else if k = 319 then m4 else if k = 320 then m5 else if k = 321 then m6 else if k = 322 then m7 else if k = 323 then m8 else m9
set_option maxHeartbeats 4000000 in
set_option maxRecDepth 100000 in
theorem asm {D : va_G} {T : ClassId × ClassId × ClassId} {A : Nat → Prop} {s : State} {H : Heap} {locs : List Loc} {h0 m0 : Nat} {w7 w8 : va_W} (w : WW D A s H locs (w7 ++ w8)) (p7 : poX7 T h0 w7) (p8 : poX8 T m0 w8) : ∃ a : Nat → Nat, a 296 = h0 ∧ a 315 = m0 ∧ ∀ st, PP (D, a, T, A, st) s H locs I0 := by
  obtain ⟨q1, q3, q5, q7, q9, q10, q12, q14, q16, q18, v2, v4, v6, v8, v11, v13, v15, v17, v19, ⟨r1, r2, r3, e2⟩, ⟨tb, hd, e4⟩, ⟨hn, n0, e6⟩, ⟨ka, hk, e8⟩, ⟨hi0, i00, e11⟩, ⟨hi1, i10, e13⟩, ⟨ft, hg, e15⟩, ⟨s1, s2, s3, s4, hl, e17⟩, ⟨an, e19⟩, e7⟩ := p7
  obtain ⟨m1, m2, m3, m4, m5, m6, m7, m8, m9, e20⟩ := p8
  subst n0 i00 i10
  refine ⟨ad hn hd hg hi0 hi1 hk hl h0 q1 r1 r2 r3 q3 tb q7 ka q9 q14 ft q16 s1 s2 s3 s4 q18 an m0 m1 m2 m3 m4 m5 m6 m7 m8 m9, rfl, rfl, fun st => ?_⟩
  generalize hE : ((D, ad hn hd hg hi0 hi1 hk hl h0 q1 r1 r2 r3 q3 tb q7 ka q9 q14 ft q16 s1 s2 s3 s4 q18 an m0 m1 m2 m3 m4 m5 m6 m7 m8 m9, T, A, st) : EE) = E
  have e21 : ∀ k, E.2.1 k = ad hn hd hg hi0 hi1 hk hl h0 q1 r1 r2 r3 q3 tb q7 ka q9 q14 ft q16 s1 s2 s3 s4 q18 an m0 m1 m2 m3 m4 m5 m6 m7 m8 m9 k := fun k => by rw [← hE]
  have eT : E.2.2.1 = T := by rw [← hE]
  have eA : E.2.2.2.1 = A := by rw [← hE]
  have eD : E.1 = D := by rw [← hE]
  have eb : ∀ j r, j < 37 → r < 8 → E.2.1 (8 * j + r) = ba hn hd hg hi0 hi1 hk hl j r := fun j r hj hr => by
    rw [e21]
    unfold ad
    rw [if_pos (by omega), show (8 * j + r) / 8 = j by omega, show (8 * j + r) % 8 = r by omega]
  generalize hws : w7 ++ w8 = ws at w
  have l2 : v2.length = 4 := by rw [e2]; rfl
  have l4 : v4.length = 10 := by rw [e4]; rfl
  have l6 : v6.length = 8 := by rw [e6]; rfl
  have l8 : v8.length = 194 := by rw [e8]; simp [bks_len]
  have l11 : v11.length = 8 := by rw [e11]; rfl
  have l13 : v13.length = 8 := by rw [e13]; rfl
  have l15 : v15.length = 10 := by rw [e15]; rfl
  have l17 : v17.length = 69 := by rw [e17]; simp [bks_len]
  have l19 : v19.length = 2 := by rw [e19]; rfl
  have hr : ws = [(h0, .inr (7, [.ref q1, .ref q3, .ref (hn 0), .ref q7, .ref q9, .ref q14, .ref q16, .ref q18, .int 0]))] ++ (v2 ++ (v4 ++ (v6 ++ (v8 ++ ([(q9, .inl (T.2.2, 2, .inr (.inr (.inr (.inr (va_up (va_up (fun _ => none) (nI 0 : Int32).toNatClampNeg (some (hi0 0))) (nI 1 : Int32).toNatClampNeg (some (hi1 0))))))))] ++ (v11 ++ (v13 ++ (v15 ++ (v17 ++ (v19 ++ (w8))))))))))) := by
    rw [← hws, e7]
    simp only [List.append_assoc, List.cons_append, List.nil_append, List.singleton_append]
  have o2 : ∀ i, ws[1 + i]? = (v2 ++ (v4 ++ (v6 ++ (v8 ++ ([(q9, .inl (T.2.2, 2, .inr (.inr (.inr (.inr (va_up (va_up (fun _ => none) (nI 0 : Int32).toNatClampNeg (some (hi0 0))) (nI 1 : Int32).toNatClampNeg (some (hi1 0))))))))] ++ (v11 ++ (v13 ++ (v15 ++ (v17 ++ (v19 ++ (w8)))))))))))[i]? := fun i => by
    rw [hr, show 1 + i = 1 + i by omega, ga (l1 := [(h0, .inr (7, [.ref q1, .ref q3, .ref (hn 0), .ref q7, .ref q9, .ref q14, .ref q16, .ref q18, .int 0]))]) (a := 1) rfl]
  have o4 : ∀ i, ws[5 + i]? = (v4 ++ (v6 ++ (v8 ++ ([(q9, .inl (T.2.2, 2, .inr (.inr (.inr (.inr (va_up (va_up (fun _ => none) (nI 0 : Int32).toNatClampNeg (some (hi0 0))) (nI 1 : Int32).toNatClampNeg (some (hi1 0))))))))] ++ (v11 ++ (v13 ++ (v15 ++ (v17 ++ (v19 ++ (w8))))))))))[i]? := fun i => by
    rw [hr, show 5 + i = 1 + (4 + i) by omega, ga (l1 := [(h0, .inr (7, [.ref q1, .ref q3, .ref (hn 0), .ref q7, .ref q9, .ref q14, .ref q16, .ref q18, .int 0]))]) (a := 1) rfl, ga (l1 := v2) l2]
  have o6 : ∀ i, ws[15 + i]? = (v6 ++ (v8 ++ ([(q9, .inl (T.2.2, 2, .inr (.inr (.inr (.inr (va_up (va_up (fun _ => none) (nI 0 : Int32).toNatClampNeg (some (hi0 0))) (nI 1 : Int32).toNatClampNeg (some (hi1 0))))))))] ++ (v11 ++ (v13 ++ (v15 ++ (v17 ++ (v19 ++ (w8)))))))))[i]? := fun i => by
    rw [hr, show 15 + i = 1 + (4 + (10 + i)) by omega, ga (l1 := [(h0, .inr (7, [.ref q1, .ref q3, .ref (hn 0), .ref q7, .ref q9, .ref q14, .ref q16, .ref q18, .int 0]))]) (a := 1) rfl, ga (l1 := v2) l2, ga (l1 := v4) l4]
  have o8 : ∀ i, ws[23 + i]? = (v8 ++ ([(q9, .inl (T.2.2, 2, .inr (.inr (.inr (.inr (va_up (va_up (fun _ => none) (nI 0 : Int32).toNatClampNeg (some (hi0 0))) (nI 1 : Int32).toNatClampNeg (some (hi1 0))))))))] ++ (v11 ++ (v13 ++ (v15 ++ (v17 ++ (v19 ++ (w8))))))))[i]? := fun i => by
    rw [hr, show 23 + i = 1 + (4 + (10 + (8 + i))) by omega, ga (l1 := [(h0, .inr (7, [.ref q1, .ref q3, .ref (hn 0), .ref q7, .ref q9, .ref q14, .ref q16, .ref q18, .int 0]))]) (a := 1) rfl, ga (l1 := v2) l2, ga (l1 := v4) l4, ga (l1 := v6) l6]
  have oI : ∀ i, ws[217 + i]? = ([(q9, .inl (T.2.2, 2, .inr (.inr (.inr (.inr (va_up (va_up (fun _ => none) (nI 0 : Int32).toNatClampNeg (some (hi0 0))) (nI 1 : Int32).toNatClampNeg (some (hi1 0))))))))] ++ (v11 ++ (v13 ++ (v15 ++ (v17 ++ (v19 ++ (w8)))))))[i]? := fun i => by
    rw [hr, show 217 + i = 1 + (4 + (10 + (8 + (194 + i)))) by omega, ga (l1 := [(h0, .inr (7, [.ref q1, .ref q3, .ref (hn 0), .ref q7, .ref q9, .ref q14, .ref q16, .ref q18, .int 0]))]) (a := 1) rfl, ga (l1 := v2) l2, ga (l1 := v4) l4, ga (l1 := v6) l6, ga (l1 := v8) l8]
  have o11 : ∀ i, ws[218 + i]? = (v11 ++ (v13 ++ (v15 ++ (v17 ++ (v19 ++ (w8))))))[i]? := fun i => by
    rw [hr, show 218 + i = 1 + (4 + (10 + (8 + (194 + (1 + i))))) by omega, ga (l1 := [(h0, .inr (7, [.ref q1, .ref q3, .ref (hn 0), .ref q7, .ref q9, .ref q14, .ref q16, .ref q18, .int 0]))]) (a := 1) rfl, ga (l1 := v2) l2, ga (l1 := v4) l4, ga (l1 := v6) l6, ga (l1 := v8) l8, ga (l1 := [(q9, .inl (T.2.2, 2, .inr (.inr (.inr (.inr (va_up (va_up (fun _ => none) (nI 0 : Int32).toNatClampNeg (some (hi0 0))) (nI 1 : Int32).toNatClampNeg (some (hi1 0))))))))]) (a := 1) rfl]
  have o13 : ∀ i, ws[226 + i]? = (v13 ++ (v15 ++ (v17 ++ (v19 ++ (w8)))))[i]? := fun i => by
    rw [hr, show 226 + i = 1 + (4 + (10 + (8 + (194 + (1 + (8 + i)))))) by omega, ga (l1 := [(h0, .inr (7, [.ref q1, .ref q3, .ref (hn 0), .ref q7, .ref q9, .ref q14, .ref q16, .ref q18, .int 0]))]) (a := 1) rfl, ga (l1 := v2) l2, ga (l1 := v4) l4, ga (l1 := v6) l6, ga (l1 := v8) l8, ga (l1 := [(q9, .inl (T.2.2, 2, .inr (.inr (.inr (.inr (va_up (va_up (fun _ => none) (nI 0 : Int32).toNatClampNeg (some (hi0 0))) (nI 1 : Int32).toNatClampNeg (some (hi1 0))))))))]) (a := 1) rfl, ga (l1 := v11) l11]
  have o15 : ∀ i, ws[234 + i]? = (v15 ++ (v17 ++ (v19 ++ (w8))))[i]? := fun i => by
    rw [hr, show 234 + i = 1 + (4 + (10 + (8 + (194 + (1 + (8 + (8 + i))))))) by omega, ga (l1 := [(h0, .inr (7, [.ref q1, .ref q3, .ref (hn 0), .ref q7, .ref q9, .ref q14, .ref q16, .ref q18, .int 0]))]) (a := 1) rfl, ga (l1 := v2) l2, ga (l1 := v4) l4, ga (l1 := v6) l6, ga (l1 := v8) l8, ga (l1 := [(q9, .inl (T.2.2, 2, .inr (.inr (.inr (.inr (va_up (va_up (fun _ => none) (nI 0 : Int32).toNatClampNeg (some (hi0 0))) (nI 1 : Int32).toNatClampNeg (some (hi1 0))))))))]) (a := 1) rfl, ga (l1 := v11) l11, ga (l1 := v13) l13]
  have o17 : ∀ i, ws[244 + i]? = (v17 ++ (v19 ++ (w8)))[i]? := fun i => by
    rw [hr, show 244 + i = 1 + (4 + (10 + (8 + (194 + (1 + (8 + (8 + (10 + i)))))))) by omega, ga (l1 := [(h0, .inr (7, [.ref q1, .ref q3, .ref (hn 0), .ref q7, .ref q9, .ref q14, .ref q16, .ref q18, .int 0]))]) (a := 1) rfl, ga (l1 := v2) l2, ga (l1 := v4) l4, ga (l1 := v6) l6, ga (l1 := v8) l8, ga (l1 := [(q9, .inl (T.2.2, 2, .inr (.inr (.inr (.inr (va_up (va_up (fun _ => none) (nI 0 : Int32).toNatClampNeg (some (hi0 0))) (nI 1 : Int32).toNatClampNeg (some (hi1 0))))))))]) (a := 1) rfl, ga (l1 := v11) l11, ga (l1 := v13) l13, ga (l1 := v15) l15]
  have o19 : ∀ i, ws[313 + i]? = (v19 ++ (w8))[i]? := fun i => by
    rw [hr, show 313 + i = 1 + (4 + (10 + (8 + (194 + (1 + (8 + (8 + (10 + (69 + i))))))))) by omega, ga (l1 := [(h0, .inr (7, [.ref q1, .ref q3, .ref (hn 0), .ref q7, .ref q9, .ref q14, .ref q16, .ref q18, .int 0]))]) (a := 1) rfl, ga (l1 := v2) l2, ga (l1 := v4) l4, ga (l1 := v6) l6, ga (l1 := v8) l8, ga (l1 := [(q9, .inl (T.2.2, 2, .inr (.inr (.inr (.inr (va_up (va_up (fun _ => none) (nI 0 : Int32).toNatClampNeg (some (hi0 0))) (nI 1 : Int32).toNatClampNeg (some (hi1 0))))))))]) (a := 1) rfl, ga (l1 := v11) l11, ga (l1 := v13) l13, ga (l1 := v15) l15, ga (l1 := v17) l17]
  have o20 : ∀ i, ws[315 + i]? = (w8)[i]? := fun i => by
    rw [hr, show 315 + i = 1 + (4 + (10 + (8 + (194 + (1 + (8 + (8 + (10 + (69 + (2 + i)))))))))) by omega, ga (l1 := [(h0, .inr (7, [.ref q1, .ref q3, .ref (hn 0), .ref q7, .ref q9, .ref q14, .ref q16, .ref q18, .int 0]))]) (a := 1) rfl, ga (l1 := v2) l2, ga (l1 := v4) l4, ga (l1 := v6) l6, ga (l1 := v8) l8, ga (l1 := [(q9, .inl (T.2.2, 2, .inr (.inr (.inr (.inr (va_up (va_up (fun _ => none) (nI 0 : Int32).toNatClampNeg (some (hi0 0))) (nI 1 : Int32).toNatClampNeg (some (hi1 0))))))))]) (a := 1) rfl, ga (l1 := v11) l11, ga (l1 := v13) l13, ga (l1 := v15) l15, ga (l1 := v17) l17, ga (l1 := v19) l19]
  have key : ∀ k, k < 325 → ∃ e, ws[gx k]? = some (E.2.1 k, e) ∧ (va_at E.1 vwCl (E.2.1 k, e) H → va_at E.1 vwCl (E.2.1 k, cellOf E k (I0 k)) H) := by
    intro k hk0
    by_cases c : k < 296
    · obtain ⟨j, r, hr8, rfl⟩ : ∃ j r, r < 8 ∧ k = 8 * j + r := ⟨k / 8, k % 8, by omega, by omega⟩
      have hj : j < 37 := by omega
      have fin : ∀ {h : Nat → Nat}, ba hn hd hg hi0 hi1 hk hl j = h → ws[gx (8 * j + r)]? = (bk8 T h)[r]? → ∃ e, ws[gx (8 * j + r)]? = some (E.2.1 (8 * j + r), e) ∧ (va_at E.1 vwCl (E.2.1 (8 * j + r), e) H → va_at E.1 vwCl (E.2.1 (8 * j + r), cellOf E (8 * j + r) (I0 (8 * j + r))) H) := fun {h} hb hw => by
        have bc := bank_cell (E := E) hj hr8 (h := h) (fun i hi => by rw [eb j i hj hi, hb])
        rw [eT] at bc
        exact ⟨_, hw.trans bc, fun q => q⟩
      by_cases j0 : j = 0
      · subst j0
        refine fin (h := hn) rfl ?_
        have eg : gx (8 * 0 + r) = 15 + r := by unfold gx; rw [if_pos (by omega)]; omega
        rw [eg, o6, gb l6 hr8, e6]
      by_cases j1 : j = 1
      · subst j1
        refine fin (h := hd) rfl ?_
        have eg : gx (8 * 1 + r) = 5 + (2 + r) := by unfold gx; rw [if_neg (by omega), if_pos (by omega)]; omega
        rw [eg, o4, gb l4 (by omega), e4]
        exact ga (l1 := [(q3, .inr (6, [.ref tb, .ref (hd 0), .int 0, .int 0, .int 0, .int 0])), (tb, .inl (T.1, 120, .inl zf))]) rfl r
      by_cases j2 : j = 2
      · subst j2
        refine fin (h := hg) rfl ?_
        have eg : gx (8 * 2 + r) = 234 + (1 + r) := by unfold gx; rw [if_neg (by omega), if_neg (by omega), if_pos (by omega)]; omega
        rw [eg, o15, gb l15 (by omega), e15]
        exact (ga (l1 := [(q14, .inr (2, [.ref (hg 0), .ref ft, .int 0, .int 0]))]) rfl r).trans (gb bk8_len hr8)
      by_cases j3 : j = 3
      · subst j3
        refine fin (h := hi0) rfl ?_
        have eg : gx (8 * 3 + r) = 218 + r := by unfold gx; rw [if_neg (by omega), if_neg (by omega), if_neg (by omega), if_pos (by omega)]; omega
        rw [eg, o11, gb l11 hr8, e11]
      by_cases j4 : j = 4
      · subst j4
        refine fin (h := hi1) rfl ?_
        have eg : gx (8 * 4 + r) = 226 + r := by unfold gx; rw [if_neg (by omega), if_neg (by omega), if_neg (by omega), if_pos (by omega)]; omega
        rw [eg, o13, gb l13 hr8, e13]
      by_cases j29 : j < 29
      · refine fin (h := hk (j - 5)) (by unfold ba; rw [if_neg j0, if_neg j1, if_neg j2, if_neg j3, if_neg j4, if_pos j29]) ?_
        have eg : gx (8 * j + r) = 23 + (2 + (8 * (j - 5) + r)) := by unfold gx; rw [if_neg (by omega), if_neg (by omega), if_neg (by omega), if_neg (by omega), if_pos (by omega)]; omega
        rw [eg, o8, gb l8 (by omega), e8]
        exact (ga (l1 := [(q7, .inr (3, [.ref ka, .int 0, .int 0])), (ka, .inl (T.2.2, 24, .inr (.inr (.inr (.inr (rfs hk 24))))))]) rfl _).trans (bks_at hr8 24 (by omega))
      · refine fin (h := hl (j - 29)) (by unfold ba; rw [if_neg j0, if_neg j1, if_neg j2, if_neg j3, if_neg j4, if_neg j29]) ?_
        have eg : gx (8 * j + r) = 244 + (5 + (8 * (j - 29) + r)) := by unfold gx; rw [if_neg (by omega), if_neg (by omega), if_neg (by omega), if_neg (by omega), if_neg (by omega), if_pos (by omega)]; omega
        rw [eg, o17, gb l17 (by omega), e17]
        exact (ga (l1 := [(q16, .inr (5, [.ref s1, .ref s2, .ref s3, .ref s4, .int 0, .int 0, .int 0, .int 0, .int 0, .int 0, .int 0])), (s1, .inl (T.2.2, 8, .inr (.inr (.inr (.inr (rfs hl 8)))))), (s2, .inl (T.1, 7, .inl zf)), (s3, .inl (T.1, 7, .inl zf)), (s4, .inl (T.1, 7, .inl zf))]) rfl _).trans (bks_at hr8 8 (by omega))
    · rcases (show k = 296 ∨ k = 297 ∨ k = 298 ∨ k = 299 ∨ k = 300 ∨ k = 301 ∨ k = 302 ∨ k = 303 ∨ k = 304 ∨ k = 305 ∨ k = 306 ∨ k = 307 ∨ k = 308 ∨ k = 309 ∨ k = 310 ∨ k = 311 ∨ k = 312 ∨ k = 313 ∨ k = 314 ∨ k = 315 ∨ k = 316 ∨ k = 317 ∨ k = 318 ∨ k = 319 ∨ k = 320 ∨ k = 321 ∨ k = 322 ∨ k = 323 ∨ k = 324 by omega) with rfl | rfl | rfl | rfl | rfl | rfl | rfl | rfl | rfl | rfl | rfl | rfl | rfl | rfl | rfl | rfl | rfl | rfl | rfl | rfl | rfl | rfl | rfl | rfl | rfl | rfl | rfl | rfl | rfl
      · subst hE
        exact ⟨_, (by rw [hr]; rfl), fun q => q⟩
      · subst hE
        exact ⟨_, ((o2 0).trans (by rw [e2]; rfl)), fun q => q⟩
      · subst hE
        exact ⟨_, ((o2 1).trans (by rw [e2]; rfl)), fun q => q⟩
      · subst hE
        exact ⟨_, ((o2 2).trans (by rw [e2]; rfl)), fun q => q⟩
      · subst hE
        exact ⟨_, ((o2 3).trans (by rw [e2]; rfl)), fun q => q⟩
      · subst hE
        exact ⟨_, ((o4 0).trans (by rw [e4]; rfl)), fun q => q⟩
      · subst hE
        exact ⟨_, ((o4 1).trans (by rw [e4]; rfl)), fun q => q⟩
      · subst hE
        exact ⟨_, ((o8 0).trans (by rw [e8]; rfl)), fun q => q⟩
      · subst hE
        refine ⟨_, ((o8 1).trans (by rw [e8]; rfl)), fun q => ?_⟩
        exact q.trans (congrArg some (qc (fun i hi => by
          have h1 := eb (5 + i) 0 (by omega) (by omega)
          rw [Nat.add_zero] at h1
          rw [h1]
          unfold rfs ba
          rw [if_pos hi, if_neg (by omega), if_neg (by omega), if_neg (by omega), if_neg (by omega), if_neg (by omega), if_pos (by omega), show 5 + i - 5 = i by omega])))
      · subst hE
        refine ⟨_, ((oI 0).trans rfl), fun q => ?_⟩
        exact q.trans (congrArg some (qc (fun i hi => by
          have h1 := eb (3 + i) 0 (by omega) (by omega)
          rw [Nat.add_zero] at h1
          rw [h1]
          rcases (show i = 0 ∨ i = 1 by omega) with rfl | rfl <;> rfl)))
      · subst hE
        exact ⟨_, ((o15 0).trans (by rw [e15]; rfl)), fun q => q⟩
      · subst hE
        exact ⟨_, ((o15 9).trans (by rw [e15]; rfl)), fun q => q⟩
      · subst hE
        exact ⟨_, ((o17 0).trans (by rw [e17]; rfl)), fun q => q⟩
      · subst hE
        refine ⟨_, ((o17 1).trans (by rw [e17]; rfl)), fun q => ?_⟩
        exact q.trans (congrArg some (qc (fun i hi => by
          have h1 := eb (29 + i) 0 (by omega) (by omega)
          rw [Nat.add_zero] at h1
          rw [h1]
          unfold rfs ba
          rw [if_pos hi, if_neg (by omega), if_neg (by omega), if_neg (by omega), if_neg (by omega), if_neg (by omega), if_neg (by omega), show 29 + i - 29 = i by omega])))
      · subst hE
        exact ⟨_, ((o17 2).trans (by rw [e17]; rfl)), fun q => q⟩
      · subst hE
        exact ⟨_, ((o17 3).trans (by rw [e17]; rfl)), fun q => q⟩
      · subst hE
        exact ⟨_, ((o17 4).trans (by rw [e17]; rfl)), fun q => q⟩
      · subst hE
        exact ⟨_, ((o19 0).trans (by rw [e19]; rfl)), fun q => q⟩
      · subst hE
        exact ⟨_, ((o19 1).trans (by rw [e19]; rfl)), fun q => q⟩
      · subst hE
        exact ⟨_, ((o20 0).trans (by rw [e20]; rfl)), fun q => q⟩
      · subst hE
        exact ⟨_, ((o20 1).trans (by rw [e20]; rfl)), fun q => q⟩
      · subst hE
        exact ⟨_, ((o20 2).trans (by rw [e20]; rfl)), fun q => q⟩
      · subst hE
        exact ⟨_, ((o20 3).trans (by rw [e20]; rfl)), fun q => q⟩
      · subst hE
        exact ⟨_, ((o20 4).trans (by rw [e20]; rfl)), fun q => q⟩
      · subst hE
        exact ⟨_, ((o20 5).trans (by rw [e20]; rfl)), fun q => q⟩
      · subst hE
        exact ⟨_, ((o20 6).trans (by rw [e20]; rfl)), fun q => q⟩
      · subst hE
        exact ⟨_, ((o20 7).trans (by rw [e20]; rfl)), fun q => q⟩
      · subst hE
        exact ⟨_, ((o20 8).trans (by rw [e20]; rfl)), fun q => q⟩
      · subst hE
        exact ⟨_, ((o20 9).trans (by rw [e20]; rfl)), fun q => q⟩
  have kP : va_P E.1 vwCl (pool E I0) H := fun k q hk => by
    obtain ⟨h1, h2⟩ := pool_of hk
    obtain ⟨e, a1, a2⟩ := key k h1
    rw [h2]
    exact a2 (by rw [eD]; exact w.1 _ _ a1)
  refine ⟨kP, ⟨fun i j x y hx hy hxy => ?_, fun k q hk => ?_⟩, by rw [eA]; exact w.2.2.1⟩
  · obtain ⟨h1, h2⟩ := pool_of hx
    obtain ⟨h3, h4⟩ := pool_of hy
    obtain ⟨e, a1, -⟩ := key i h1
    obtain ⟨e', b1, -⟩ := key j h3
    rw [h2, h4] at hxy
    have := w.2.1.1 _ _ _ _ a1 b1 hxy
    rw [← gi_gx i h1, ← gi_gx j h3, this]
  · obtain ⟨h1, h2⟩ := pool_of hk
    obtain ⟨e, a1, -⟩ := key k h1
    have z := w.2.1.2 _ _ a1
    rw [h2, eA]
    exact z

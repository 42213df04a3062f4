theorem eq_clearText {pr : Nat → Int32} {pu : Nat → Int32} {ta : Nat → Int32} {se : Nat → Int32} {qu : Nat → Int32} {im : Nat → Int32} {su : Nat → Int64} {tc : Int32} {sc : Int32} {rc : Int32} {cn : Int32} {so : Int32} {bt : Nat → Int32} {le : Int32} {hs : Nat → SV} {ol : Int32} {ct : Int32} {row : Nat → Int32} {tot : Nat → Int64} {txt : Nat → Int32} {sav : Int32} {len : Int32} (hI : Inv pr pu ta se qu im su tc sc rc cn so hs ol ct bt le row tot sav txt len) : ∃ q4 q5, f_X4_clearText le = some q4 ∧ f_X5_clearText len = some q5 ∧ q4.1 = q5.1 ∧ Inv pr pu ta se qu im su tc sc rc cn so hs ol ct bt q4.2 row tot sav txt q5.2 := by
  obtain ⟨hB, hV, hH, n, hn, rfl, rfl, hT⟩ := id hI
  exact ⟨_, _, rfl, rfl, rfl, hB, hV, hH, 0, by omega, rfl, rfl, hT⟩
theorem eq_type {pr : Nat → Int32} {pu : Nat → Int32} {ta : Nat → Int32} {se : Nat → Int32} {qu : Nat → Int32} {im : Nat → Int32} {su : Nat → Int64} {tc : Int32} {sc : Int32} {rc : Int32} {cn : Int32} {so : Int32} {bt : Nat → Int32} {le : Int32} {hs : Nat → SV} {ol : Int32} {ct : Int32} {row : Nat → Int32} {tot : Nat → Int64} {txt : Nat → Int32} {sav : Int32} {len : Int32} (p0 : Int32) (hI : Inv pr pu ta se qu im su tc sc rc cn so hs ol ct bt le row tot sav txt len) : ∃ q4 q5, f_X4_type bt le p0 = some q4 ∧ f_X5_type txt len p0 = some q5 ∧ q4.1 = q5.1 ∧ Inv pr pu ta se qu im su tc sc rc cn so hs ol ct q4.2.1 q4.2.2 row tot sav q5.2.1 q5.2.2 := by
  obtain ⟨hB, hV, hH, n, hn, rfl, rfl, hT⟩ := id hI
  unfold f_X4_type f_X5_type f_X3_append
  rw [in_eq]
  rcases wi0 p0 255 (by omega) with h | ⟨h, z, hz, rfl⟩
  · rw [show (255 : Int32) = nI 255 from rfl, h]; exact ⟨_, _, rfl, rfl, rfl, hI⟩
  · rw [show f_X4_isWithin (nI z) 0 255 = some 1 from h]
    simp only [n10, ↓reduceIte, Option.bind_some]
    by_cases h1 : n = 100
    · subst h1
      rw [if_neg (show ¬ nI 100 < 100 by decide), if_pos (show nI 100 = 100 by decide)]
      exact ⟨_, _, rfl, rfl, rfl, hI⟩
    · have hlt : nI n < 100 := nI_lt (b := 100) (by omega) (by omega)
      have hne : ¬ nI n = 100 := fun h => h1 (nI_inj (by omega) (by omega) (h : nI n = nI 100))
      rw [if_pos hlt, if_neg hne, gd_n (by omega), gd_n (by omega), nI_clamp (by omega), ap1]
      simp only [n10, ↓reduceIte, Option.bind_some]
      refine ⟨_, _, rfl, rfl, rfl, hB, hV, hH, n + 1, by omega, rfl, rfl, fun k hk => ?_⟩
      show upd txt n (nI z) k = upd bt n (nI z) k ∧ ∃ w, w < 256 ∧ upd bt n (nI z) k = nI w
      by_cases c : k = n
      · subst c; exact ⟨by rw [us, us], z, by omega, us⟩
      · rw [uu c, uu c]; exact hT k hk
theorem ix99 (i : Nat) : (99 : Int32) + nI i = nI (99 + i) := nI_add 99 i
theorem ix102 (i : Nat) : (102 : Int32) + nI i = nI (102 + i) := nI_add 102 i
/-- two loops over the same counter, each step with the same hash -/
theorem lp_dig {b1 b2 : Int64 × Int32 → Option ((Int64 × Int32) ⊕ Int64)} (e : Nat) (f : Nat → Int64 → Int64) (h1 : ∀ i h, i < e → b1 (h, nI i) = some (.inl (f i h, nI (i + 1))) ∧ b2 (h, nI i) = some (.inl (f i h, nI (i + 1)))) (h2 : ∀ h, b1 (h, nI e) = some (.inr h) ∧ b2 (h, nI e) = some (.inr h)) (he : e < 1000) (h0 : Int64) : ∃ r, lp b1 1000 (h0, nI 0) = some r ∧ lp b2 1000 (h0, nI 0) = some r := by
  obtain ⟨r1, r2, e1, e2, hr⟩ := lp_rel (b1 := b1) (b2 := b2) (fun i s1 s2 => s1 = s2 ∧ s1.2 = nI i) e (fun r1 r2 => r1 = r2) (by
    rintro i ⟨h, y⟩ s2 hi ⟨rfl, hy⟩
    replace hy : y = nI i := hy
    subst hy
    rcases Nat.lt_or_ge i e with hlt | hge
    · exact Or.inl ⟨hlt, _, _, (h1 i h hlt).1, (h1 i h hlt).2, rfl, rfl⟩
    · have hi : i = e := by omega
      subst hi
      exact Or.inr ⟨_, _, (h2 h).1, (h2 h).2, rfl⟩) 1000 0 (h0, nI 0) (h0, nI 0) (Nat.zero_le _) (by omega) ⟨rfl, rfl⟩
  exact ⟨r1, e1, hr ▸ e2⟩
theorem eq_digest {pr : Nat → Int32} {pu : Nat → Int32} {ta : Nat → Int32} {se : Nat → Int32} {qu : Nat → Int32} {im : Nat → Int32} {su : Nat → Int64} {tc : Int32} {sc : Int32} {rc : Int32} {cn : Int32} {so : Int32} {bt : Nat → Int32} {le : Int32} {hs : Nat → SV} {ol : Int32} {ct : Int32} {row : Nat → Int32} {tot : Nat → Int64} {txt : Nat → Int32} {sav : Int32} {len : Int32} {hh : Int64} (hI : Inv pr pu ta se qu im su tc sc rc cn so hs ol ct bt le row tot sav txt len) : ∃ q4 q5, f_X4_digest pr pu ta qu im su tc rc cn = some q4 ∧ f_X5_digest row tot hh = some q5 ∧ q4 = q5.1 ∧ Inv pr pu ta se qu im su tc sc rc cn so hs ol ct bt le row tot sav txt len := by
  obtain ⟨N, rfl, e2, hC⟩ := hI.cur
  have hN := hC.2.2.1
  obtain ⟨hB, hV, -, -⟩ := id hI
  obtain ⟨-, -, Q, -, -, -, -, rfl, hQ, -, -⟩ := id hV
  have eR := b_rc hB
  have z0 : (0 : Int32) = nI 0 := rfl
  unfold f_X4_digest f_X5_digest f_X5_note
  simp only [g0, c0, g68, c68, Option.bind_some, gd_t (show ib 57 708 = true by decide), gd_t (show ib 58 708 = true by decide), gd_t (show ib 117 708 = true by decide), show (57 : Int32).toNatClampNeg = 57 by decide, show (58 : Int32).toNatClampNeg = 58 by decide, show (117 : Int32).toNatClampNeg = 117 by decide]
  have e57 : row 57 = ta 0 := b_ta hB (k := 0) (by omega)
  have e58 : row 58 = ta 1 := b_ta hB (k := 1) (by omega)
  rw [e2, eR, b_cn hB, e57, e58, show (31 : Int64) * 17 = 527 by decide, z0]
  obtain ⟨r1, a1, b1⟩ := lp_dig (b1 := f_X4_digest_b15 pr pu (nI N)) (b2 := f_X5_digest_b20 row) N (fun i h => 31 * ((lp (f_X4_digest_b29 pr (nI i)) 1000 (h, nI 0)).getD 0) + (pu i).toInt64) (fun i h hi => by
    obtain ⟨r, a, b⟩ := lp_dig (b1 := f_X4_digest_b29 pr (nI i)) (b2 := f_X5_digest_b32 row (nI i)) 7 (fun w h => 31 * h + (pr (7 * i + w)).toInt64) (fun w h hw => by
      obtain ⟨p1, p2⟩ := prop_of hC hi w hw
      have hn : ¬ (7 : Int32) ≤ nI w := nI_ge (b := 7) hw (by omega)
      unfold f_X4_digest_b29 f_X5_digest_b32 f_X5_note
      constructor
      · show (if (7 : Int32) ≤ nI w then _ else (f_X2_property pr (nI i) (nI w)).bind _) = _
        rw [if_neg hn, p1, Option.bind_some]
        show some (Sum.inl (_, nI w + 1)) = _
        rw [ap1]
      · show (if (7 : Int32) ≤ nI w then _ else (f_X5_of row (nI i) (nI w)).bind _) = _
        rw [if_neg hn, p2, Option.bind_some, Option.bind_some]
        show some (Sum.inl (_, nI w + 1)) = _
        rw [ap1]) (fun h => ⟨by
      unfold f_X4_digest_b29
      show (if (7 : Int32) ≤ nI 7 then _ else _) = _
      rw [if_pos (by decide)], by
      unfold f_X5_digest_b32
      show (if (7 : Int32) ≤ nI 7 then _ else _) = _
      rw [if_pos (by decide)]⟩) (by omega) h
    have hn : ¬ nI N ≤ nI i := nI_ge hi (by omega)
    rw [a]
    unfold f_X4_digest_b15 f_X5_digest_b20 f_X5_note
    constructor
    · show (if nI N ≤ nI i then _ else (lp (f_X4_digest_b29 pr (nI i)) 1000 (h, nI 0)).bind _) = _
      rw [if_neg hn, a, Option.bind_some]
      show gd (ib (nI i) 8) (some (Sum.inl (31 * r + (pu (nI i).toNatClampNeg).toInt64, nI i + 1))) = _
      rw [gd_n (by omega), nI_clamp (by omega), ap1]
      rfl
    · show gd (ib 0 708) (if row (0 : Int32).toNatClampNeg ≤ nI i then _ else (lp (f_X5_digest_b32 row (nI i)) 1000 (h, nI 0)).bind _) = _
      rw [g0, c0, e2, if_neg hn, b, Option.bind_some]
      show gd (ib (108 + nI i) 708) (some (Sum.inl (31 * r + (row ((108 : Int32) + nI i).toNatClampNeg).toInt64, nI i + 1))) = _
      rw [ix108, gd_n (by omega), nI_clamp (by omega), ap1, b_pu hB (by omega)]
      rfl) (fun h => ⟨by
    unfold f_X4_digest_b15
    show (if nI N ≤ nI N then _ else _) = _
    rw [if_pos (nI_le (Nat.le_refl _) (by omega))], by
    unfold f_X5_digest_b20
    show gd (ib 0 708) (if row (0 : Int32).toNatClampNeg ≤ nI N then _ else _) = _
    rw [g0, c0, e2, if_pos (nI_le (Nat.le_refl _) (by omega))]⟩) (by omega) (527 + (nI N).toInt64)
  rw [a1, b1]
  simp only [Option.bind_some]
  have a7 : lp (f_X4_digest_b85 ta) 1000 (r1, nI 0) = some (31 * (31 * r1 + (ta 0).toInt64) + (ta 1).toInt64) := rfl
  rw [a7]
  simp only [Option.bind_some]
  obtain ⟨r3, a3, b3⟩ := lp_dig (b1 := f_X4_digest_b130 qu (nI Q)) (b2 := f_X5_digest_b113 row) (3 * Q) (fun i h => 31 * h + (qu i).toInt64) (fun i h hi => by
    unfold f_X4_digest_b130 f_X5_digest_b113 f_X5_note
    constructor
    · show (if nI Q * 3 ≤ nI i then _ else gd (ib (nI i) 30) (some (Sum.inl (31 * h + (qu (nI i).toNatClampNeg).toInt64, nI i + 1)))) = _
      rw [i3r, if_neg (nI_ge hi (by omega)), gd_n (by omega), nI_clamp (by omega), ap1]
    · show gd (ib 68 708) (if 3 * row (68 : Int32).toNatClampNeg ≤ nI i then _ else gd (ib (69 + nI i) 708) (some (Sum.inl (31 * h + (row ((69 : Int32) + nI i).toNatClampNeg).toInt64, nI i + 1)))) = _
      rw [g68, c68, eR, i3, if_neg (nI_ge hi (by omega)), ix69, gd_n (by omega), nI_clamp (by omega), ap1, b_qu hB (by omega)]) (fun h => ⟨by
    unfold f_X4_digest_b130
    show (if nI Q * 3 ≤ nI (3 * Q) then _ else _) = _
    rw [i3r, if_pos (nI_le (Nat.le_refl _) (by omega))], by
    unfold f_X5_digest_b113
    show gd (ib 68 708) (if 3 * row (68 : Int32).toNatClampNeg ≤ nI (3 * Q) then _ else _) = _
    rw [g68, c68, eR, i3, if_pos (nI_le (Nat.le_refl _) (by omega))]⟩) (by omega) (31 * (31 * (31 * r1 + (ta 0).toInt64) + (ta 1).toInt64) + (nI Q).toInt64)
  rw [a3, b3]
  simp only [Option.bind_some]
  obtain ⟨r4, a4, b4⟩ := lp_dig (b1 := f_X4_digest_b168 im) (b2 := f_X5_digest_b148 row) 9 (fun i h => 31 * h + (im i).toInt64) (fun i h hi => by
    unfold f_X4_digest_b168 f_X5_digest_b148 f_X5_note
    constructor
    · show (if (9 : Int32) ≤ nI i then _ else gd (ib (nI i) 9) (some (Sum.inl (31 * h + (im (nI i).toNatClampNeg).toInt64, nI i + 1)))) = _
      rw [if_neg (show ¬ (9 : Int32) ≤ nI i from nI_ge (b := 9) hi (by omega)), gd_n (by omega), nI_clamp (by omega), ap1]
    · show (if (9 : Int32) ≤ nI i then _ else gd (ib (99 + nI i) 708) (some (Sum.inl (31 * h + (row ((99 : Int32) + nI i).toNatClampNeg).toInt64, nI i + 1)))) = _
      rw [if_neg (show ¬ (9 : Int32) ≤ nI i from nI_ge (b := 9) hi (by omega)), ix99, gd_n (by omega), nI_clamp (by omega), ap1, b_im hB (by omega)]) (fun h => ⟨by
    unfold f_X4_digest_b168
    show (if (9 : Int32) ≤ nI 9 then _ else _) = _
    rw [if_pos (by decide)], by
    unfold f_X5_digest_b148
    show (if (9 : Int32) ≤ nI 9 then _ else _) = _
    rw [if_pos (by decide)]⟩) (by omega) r3
  rw [a4, b4]
  simp only [Option.bind_some]
  obtain ⟨r5, a5, b5⟩ := lp_dig (b1 := f_X4_digest_b199 su) (b2 := f_X5_digest_b176 tot) 3 (fun i h => 31 * h + su i) (fun i h hi => by
    unfold f_X4_digest_b199 f_X5_digest_b176 f_X5_note
    constructor
    · show (if (3 : Int32) ≤ nI i then _ else gd (ib (nI i) 3) (some (Sum.inl (31 * h + su (nI i).toNatClampNeg, nI i + 1)))) = _
      rw [if_neg (show ¬ (3 : Int32) ≤ nI i from nI_ge (b := 3) hi (by omega)), gd_n (by omega), nI_clamp (by omega), ap1]
    · show (if (3 : Int32) ≤ nI i then _ else gd (ib (nI i) 18) (some (Sum.inl (31 * h + tot (nI i).toNatClampNeg, nI i + 1)))) = _
      rw [if_neg (show ¬ (3 : Int32) ≤ nI i from nI_ge (b := 3) hi (by omega)), gd_n (by omega), nI_clamp (by omega), ap1, b_su hB (by omega)]) (fun h => ⟨by
    unfold f_X4_digest_b199
    show (if (3 : Int32) ≤ nI 3 then _ else _) = _
    rw [if_pos (by decide)], by
    unfold f_X5_digest_b176
    show (if (3 : Int32) ≤ nI 3 then _ else _) = _
    rw [if_pos (by decide)]⟩) (by omega) r4
  rw [a5, b5]
  simp only [Option.bind_some]
  exact ⟨_, _, rfl, rfl, rfl, hI⟩


theorem gdS {α : Type} {k n : Nat} {X : Option α} (h : k < n) (hn : n < 2 ^ 31) : gd (ib (nI k) n) X = X := gd_t (ib_n h hn)
theorem ap4 (a : Nat) : nI a + (4 : Int32) = nI (a + 4) := nI_add a 4
theorem ap5 (a : Nat) : nI a + (5 : Int32) = nI (a + 5) := nI_add a 5
theorem ap6 (a : Nat) : nI a + (6 : Int32) = nI (a + 6) := nI_add a 6
theorem at1 (N : Nat) : (1 : Int32) + 7 * nI N = nI (1 + 7 * N) := by rw [show (7 : Int32) = nI 7 from rfl, pk_mul]; exact nI_add 1 (7 * N)
theorem ix60 (i : Nat) : (60 : Int32) + nI i = nI (60 + i) := nI_add 60 i
theorem bits_eq : ∀ k, k < 256 → f_J6_bitCount_0f7a4 (nI k) = f_X5_bits (nI k) ∧ (f_X5_bits (nI k)).isSome = true := by decide +kernel
theorem mask_top : ∀ N, N < 9 → ((1 : Int32) <<< (nI N &&& 31)) - 1 = nI (2 ^ N - 1) ∧ 2 ^ N - 1 < 256 := by decide +kernel
theorem find_of {se row : Nat → Int32} {S : Nat} (hS : S ≤ 8) (h59 : row 59 = nI S) (hq : ∀ k, k < 8 → row (60 + k) = se k) (hd : ∀ i j, i < S → j < S → se i = se j → i = j) (p : Int32) : ∃ u, f_X2_placeOfSet se (nI S) p = some u ∧ f_X5_find row p = some u ∧ ((∃ k, k < S ∧ u = nI k ∧ se k = p) ∨ (u = -1 ∧ ∀ k, k < S → se k ≠ p)) := by
  obtain ⟨r1, e1, h1⟩ := lp_run (b := f_X2_placeOfSet_b2 se (nI S) p) (fun i s => s = nI i ∧ ∀ j, j < i → se j ≠ p) S (fun r => (∃ k, k < S ∧ r = Sum.inl (nI k) ∧ se k = p) ∨ (r = Sum.inr () ∧ ∀ k, k < S → se k ≠ p)) (by
    rintro i s hi ⟨rfl, hJ⟩
    unfold f_X2_placeOfSet_b2
    rcases Nat.lt_or_ge i S with hlt | hge
    · rw [if_neg (nI_ge hlt (by omega)), gd_n (by omega), nI_clamp (by omega)]
      by_cases c : se i = p
      · rw [if_pos c]; exact Or.inr ⟨_, rfl, Or.inl ⟨i, hlt, rfl, c⟩⟩
      · rw [if_neg c]
        refine Or.inl ⟨hlt, _, rfl, ap1 i, fun j hj => ?_⟩
        by_cases d : j = i
        · subst d; exact c
        · exact hJ j (by omega)
    · have hi : i = S := by omega
      subst hi
      rw [if_pos (nI_le (Nat.le_refl _) (by omega))]
      exact Or.inr ⟨_, rfl, Or.inr ⟨rfl, hJ⟩⟩) 1000 0 0 (Nat.zero_le _) (by omega) ⟨rfl, fun j hj => by omega⟩
  obtain ⟨r2, e2, h2⟩ := lp_run (b := f_X5_find_b4 row p) (fun i s => s.2 = nI i ∧ ((∃ k, k < i ∧ s.1 = nI k ∧ se k = p) ∨ (s.1 = -1 ∧ ∀ j, j < i → se j ≠ p))) S (fun r => (∃ k, k < S ∧ r = nI k ∧ se k = p) ∨ (r = -1 ∧ ∀ k, k < S → se k ≠ p)) (by
    rintro i ⟨x, y⟩ hi ⟨hy, hJ⟩
    replace hy : y = nI i := hy
    replace hJ : (∃ k, k < i ∧ x = nI k ∧ se k = p) ∨ (x = -1 ∧ ∀ j, j < i → se j ≠ p) := hJ
    subst hy
    unfold f_X5_find_b4 f_X5_find_j33
    rcases Nat.lt_or_ge i S with hlt | hge
    · refine Or.inl ⟨hlt, ?_⟩
      show ∃ s', gd (ib 59 708) (if row (59 : Int32).toNatClampNeg ≤ nI i then _ else gd (ib (60 + nI i) 708) (if row ((60 : Int32) + nI i).toNatClampNeg = p then some (Sum.inl (nI i, nI i + 1)) else some (Sum.inl (x, nI i + 1)))) = some (Sum.inl s') ∧ _
      rw [g59, c59, h59, if_neg (nI_ge hlt (by omega)), ix60, gd_n (by omega), nI_clamp (by omega), hq i (by omega), ap1]
      by_cases c : se i = p
      · rw [if_pos c]; exact ⟨_, rfl, rfl, Or.inl ⟨i, by omega, rfl, c⟩⟩
      · rw [if_neg c]
        refine ⟨_, rfl, rfl, ?_⟩
        rcases hJ with ⟨k, hk, hx, hp⟩ | ⟨hx, hn⟩
        · exact Or.inl ⟨k, by omega, hx, hp⟩
        · refine Or.inr ⟨hx, fun j hj => ?_⟩
          by_cases d : j = i
          · subst d; exact c
          · exact hn j (by omega)
    · have hi : i = S := by omega
      subst hi
      refine Or.inr ⟨x, ?_, hJ⟩
      show gd (ib 59 708) (if row (59 : Int32).toNatClampNeg ≤ nI i then _ else _) = _
      rw [g59, c59, h59, if_pos (nI_le (Nat.le_refl _) (by omega))]) 1000 0 (-1, 0) (Nat.zero_le _) (by omega) ⟨rfl, Or.inr ⟨rfl, fun j hj => by omega⟩⟩
  unfold f_X2_placeOfSet f_X5_find
  rw [e1, e2, Option.bind_some, Option.bind_some]
  rcases h1 with ⟨k, hk, rfl, hp⟩ | ⟨rfl, hn⟩
  · rcases h2 with ⟨k2, hk2, rfl, hp2⟩ | ⟨rfl, hn⟩
    · have := hd k k2 hk hk2 (hp.trans hp2.symm)
      subst this
      exact ⟨nI k, rfl, rfl, Or.inl ⟨k, hk, rfl, hp⟩⟩
    · exact absurd hp (hn k hk)
  · rcases h2 with ⟨k2, hk2, rfl, hp2⟩ | ⟨rfl, -⟩
    · exact absurd hp2 (hn k2 hk2)
    · exact ⟨-1, rfl, rfl, Or.inr ⟨rfl, hn⟩⟩
theorem eq_forbid {pr : Nat → Int32} {pu : Nat → Int32} {ta : Nat → Int32} {se : Nat → Int32} {qu : Nat → Int32} {im : Nat → Int32} {su : Nat → Int64} {tc : Int32} {sc : Int32} {rc : Int32} {cn : Int32} {so : Int32} {bt : Nat → Int32} {le : Int32} {hs : Nat → SV} {ol : Int32} {ct : Int32} {row : Nat → Int32} {tot : Nat → Int64} {txt : Nat → Int32} {sav : Int32} {len : Int32} (p0 : Int32) (hI : Inv pr pu ta se qu im su tc sc rc cn so hs ol ct bt le row tot sav txt len) : ∃ q4 q5, f_X4_forbid pr pu ta qu im su tc rc cn so se sc hs ol ct p0 = some q4 ∧ f_X5_forbid row tot sav p0 = some q5 ∧ q4.1 = q5.1 ∧ Inv pr pu ta q4.2.1 qu im su tc q4.2.2.1 rc cn so q4.2.2.2.1 q4.2.2.2.2.1 q4.2.2.2.2.2 bt le q5.2.1 q5.2.2.1 q5.2.2.2 txt len := by
  obtain ⟨N, rfl, e2, hC⟩ := hI.cur
  have hN := hC.2.2.1
  obtain ⟨k, q, hk, hq, q1, q2, hH⟩ := rec_ok hI
  obtain ⟨hB, hV, hHi, hT⟩ := id hI
  obtain ⟨N', S, Q, eN, hN', rfl, hS, eQ, hQ, hPV, hd, hb⟩ := id hV
  obtain ⟨t1, t2⟩ := mask_top N (by omega)
  unfold f_X4_forbid f_X5_forbid f_X4_forbid_j29 f_X5_forbid_j26
  rw [in_eq, g0, c0, e2, t1]
  rcases wi0 p0 (2 ^ N - 1) (by omega) with h | ⟨h, z, hz, rfl⟩
  · rw [h]; exact ⟨_, _, rfl, rfl, rfl, hI⟩
  · rw [h]
    simp only [n10, ↓reduceIte, Option.bind_some]
    obtain ⟨b1, b2⟩ := bits_eq z (by omega)
    rw [b1]
    obtain ⟨w, hw⟩ := Option.isSome_iff_exists.mp b2
    rw [hw]
    simp only [Option.bind_some]
    by_cases c : (2 : Int32) ≤ w
    · rw [if_pos c, if_pos c]
      obtain ⟨u, u1, u2, u3⟩ := find_of hS (b_sc hB) (fun k hk => b_se hB hk) hd (nI z)
      rw [u1, u2]
      simp only [Option.bind_some, g59, c59]
      rw [b_sc hB]
      rcases u3 with ⟨j, hj, rfl, hp⟩ | ⟨rfl, hn⟩
      · rw [if_neg (nI_pos (by omega)), if_neg (nI_pos (by omega))]
        exact ⟨_, _, rfl, rfl, rfl, hI⟩
      · simp only [show ((-1 : Int32) < 0) = True by decide, ↓reduceIte]
        by_cases h8 : S = 8
        · subst h8
          rw [if_neg (by decide), if_pos (by decide)]
          exact ⟨_, _, rfl, rfl, rfl, hI⟩
        · have hlt : nI S < 8 := nI_lt (b := 8) (by omega) (by omega)
          have hne : ¬ nI S = 8 := fun h => h8 (nI_inj (by omega) (by omega) (h : nI S = nI 8))
          have e59 : q.1 59 = nI S := (q1 59 (by omega)).trans (b_sc hB)
          rw [if_pos hlt, if_neg hne, hk, hq]
          unfold f_X2_appendSet
          simp only [Option.bind_some, e59, ix60]
          rw [gd_n (by omega), gd_n (by omega), nI_clamp (by omega), nI_clamp (by omega), us, uu (by omega), e59, ap1]
          refine ⟨_, _, rfl, rfl, rfl, ?_, ?_, ?_, hT⟩
          · refine (hB.same q1 q2).n_se (se' := upd se S (nI z)) (row' := upd (upd q.1 (60 + S) (nI z)) 59 (nI (S + 1))) (fun m hm => ?_) us (fun m h1 h2 => ?_)
            · show upd _ 59 _ (60 + m) = upd se S _ m
              rw [uu (by omega)]
              by_cases d : m = S
              · subst d; rw [us, us]
              · rw [uu (by omega), uu d]; exact (q1 _ (by omega)).trans (b_se hB hm)
            · show upd _ 59 _ m = _
              rw [uu h1, uu (by omega)]
          · refine ⟨N', S + 1, Q, eN, hN', rfl, by omega, eQ, hQ, hPV, fun i j hi hj e => ?_, hb⟩
            replace e : upd se S (nI z) i = upd se S (nI z) j := e
            by_cases di : i = S <;> by_cases dj : j = S
            · omega
            · subst di; rw [us, uu dj] at e; exact absurd e.symm (hn j (by omega))
            · subst dj; rw [us, uu di] at e; exact absurd e (hn i (by omega))
            · rw [uu di, uu dj] at e; exact hd i j (by omega) (by omega) e
          · exact hH.to (fun m hm => by show upd _ 59 _ m = _; rw [uu (by omega), uu (by omega)]) (fun _ _ => rfl)
    · rw [if_neg c, if_neg c]
      exact ⟨_, _, rfl, rfl, rfl, hI⟩
theorem eq_allow {pr : Nat → Int32} {pu : Nat → Int32} {ta : Nat → Int32} {se : Nat → Int32} {qu : Nat → Int32} {im : Nat → Int32} {su : Nat → Int64} {tc : Int32} {sc : Int32} {rc : Int32} {cn : Int32} {so : Int32} {bt : Nat → Int32} {le : Int32} {hs : Nat → SV} {ol : Int32} {ct : Int32} {row : Nat → Int32} {tot : Nat → Int64} {txt : Nat → Int32} {sav : Int32} {len : Int32} (p0 : Int32) (hI : Inv pr pu ta se qu im su tc sc rc cn so hs ol ct bt le row tot sav txt len) : ∃ q4 q5, f_X4_allow pr pu ta qu im su tc rc cn so se sc hs ol ct p0 = some q4 ∧ f_X5_allow row tot sav p0 = some q5 ∧ q4.1 = q5.1 ∧ Inv pr pu ta q4.2.1 qu im su tc q4.2.2.1 rc cn so q4.2.2.2.1 q4.2.2.2.2.1 q4.2.2.2.2.2 bt le q5.2.1 q5.2.2.1 q5.2.2.2 txt len := by
  obtain ⟨k, q, hk, hq, q1, q2, hH⟩ := rec_ok hI
  obtain ⟨hB, hV, hHi, hT⟩ := id hI
  obtain ⟨N', S, Q, eN, hN', rfl, hS, eQ, hQ, hPV, hd, hb⟩ := id hV
  unfold f_X4_allow f_X5_allow
  obtain ⟨u, u1, u2, u3⟩ := find_of hS (b_sc hB) (fun k hk => b_se hB hk) hd p0
  rw [u1, u2]
  simp only [Option.bind_some, g59, c59]
  rcases u3 with ⟨i, hi, rfl, hp⟩ | ⟨rfl, hn⟩
  · have hge : (0 : Int32) ≤ nI i := nI_pos' (by omega)
    have e59 : q.1 59 = nI S := (q1 59 (by omega)).trans (b_sc hB)
    rw [if_pos hge, if_pos hge, hk, hq]
    simp only [Option.bind_some]
    rw [e59, am1 S (by omega)]
    unfold f_X2_removeSet
    obtain ⟨r1, e1, h1⟩ := lp_run (b := f_X2_removeSet_b2 (nI S)) (fun j s => s.2 = nI (i + j) ∧ ∀ m, s.1 m = if i ≤ m ∧ m < i + j then se (m + 1) else se m) (S - 1 - i) (fun r => ∀ m, r m = if i ≤ m ∧ m < S - 1 then se (m + 1) else se m) (by
      rintro j ⟨f, y⟩ hj ⟨hy, hJ⟩
      replace hy : y = nI (i + j) := hy
      replace hJ : ∀ m, f m = if i ≤ m ∧ m < i + j then se (m + 1) else se m := hJ
      subst hy
      unfold f_X2_removeSet_b2
      rcases Nat.lt_or_ge j (S - 1 - i) with hlt | hge
      · refine Or.inl ⟨hlt, (upd f (i + j) (f (i + j + 1)), nI (i + (j + 1))), ?_, rfl, fun m => ?_⟩
        · show (if nI S - 1 ≤ nI (i + j) then _ else gd (ib (nI (i + j) + 1) 8) (gd (ib (nI (i + j)) 8) (some (Sum.inl (upd f (nI (i + j)).toNatClampNeg (f (nI (i + j) + 1 : Int32).toNatClampNeg), nI (i + j) + 1))))) = _
          rw [am1 S (by omega), if_neg (nI_ge (by omega) (by omega)), ap1, gd_n (by omega), gd_n (by omega), nI_clamp (by omega), nI_clamp (by omega)]
          rfl
        · show upd f _ _ m = _
          by_cases c : m = i + j
          · subst c
            rw [us, hJ, if_neg (by omega), if_pos (by omega)]
          · rw [uu c, hJ]
            by_cases d : i ≤ m ∧ m < i + j
            · rw [if_pos d, if_pos (by omega)]
            · rw [if_neg d, if_neg (by omega)]
      · have hj : j = S - 1 - i := by omega
        subst hj
        refine Or.inr ⟨f, ?_, fun m => ?_⟩
        · show (if nI S - 1 ≤ nI (i + (S - 1 - i)) then _ else _) = _
          rw [am1 S (by omega), if_pos (nI_le (by omega) (by omega))]
        · rw [hJ]
          by_cases d : i ≤ m ∧ m < S - 1
          · rw [if_pos d, if_pos (by omega)]
          · rw [if_neg d, if_neg (by omega)]) 1000 0 (se, nI i) (Nat.zero_le _) (by omega) ⟨rfl, fun m => by rw [if_neg (by omega)]⟩
    obtain ⟨r2, e2, h2⟩ := lp_run (b := f_X5_allow_b30) (fun j s => s.2 = nI (i + j) ∧ ∀ m, s.1 m = if 60 + i ≤ m ∧ m < 60 + i + j then q.1 (m + 1) else upd q.1 59 (nI (S - 1)) m) (S - 1 - i) (fun r => ∀ m, r m = if 60 + i ≤ m ∧ m < 60 + (S - 1) then q.1 (m + 1) else upd q.1 59 (nI (S - 1)) m) (by
      rintro j ⟨f, y⟩ hj ⟨hy, hJ⟩
      replace hy : y = nI (i + j) := hy
      replace hJ : ∀ m, f m = if 60 + i ≤ m ∧ m < 60 + i + j then q.1 (m + 1) else upd q.1 59 (nI (S - 1)) m := hJ
      subst hy
      have h5 : f 59 = nI (S - 1) := by rw [hJ, if_neg (by omega), us]
      unfold f_X5_allow_b30
      rcases Nat.lt_or_ge j (S - 1 - i) with hlt | hge
      · refine Or.inl ⟨hlt, (upd f (60 + (i + j)) (f (60 + (i + j) + 1)), nI (i + (j + 1))), ?_, rfl, fun m => ?_⟩
        · show gd (ib 59 708) (if f (59 : Int32).toNatClampNeg ≤ nI (i + j) then _ else gd (ib ((60 + nI (i + j)) + 1) 708) (gd (ib (60 + nI (i + j)) 708) (some (Sum.inl (upd f ((60 : Int32) + nI (i + j)).toNatClampNeg (f ((60 + nI (i + j)) + 1 : Int32).toNatClampNeg), nI (i + j) + 1))))) = _
          rw [g59, c59, h5, if_neg (nI_ge (by omega) (by omega)), ix60, ap1, gd_n (by omega), gd_n (by omega), nI_clamp (by omega), nI_clamp (by omega), ap1]
          rfl
        · show upd f _ _ m = _
          by_cases c : m = 60 + (i + j)
          · subst c
            rw [us, hJ, if_neg (by omega), if_pos (by omega), uu (by omega)]
          · rw [uu c, hJ]
            by_cases d : 60 + i ≤ m ∧ m < 60 + i + j
            · rw [if_pos d, if_pos (by omega)]
            · rw [if_neg d, if_neg (by omega)]
      · have hj : j = S - 1 - i := by omega
        subst hj
        refine Or.inr ⟨f, ?_, fun m => ?_⟩
        · show gd (ib 59 708) (if f (59 : Int32).toNatClampNeg ≤ nI (i + (S - 1 - i)) then _ else _) = _
          rw [g59, c59, h5, if_pos (nI_le (by omega) (by omega))]
        · rw [hJ]
          by_cases d : 60 + i ≤ m ∧ m < 60 + (S - 1)
          · rw [if_pos d, if_pos (by omega)]
          · rw [if_neg d, if_neg (by omega)]) 1000 0 (upd q.1 59 (nI (S - 1)), nI i) (Nat.zero_le _) (by omega) ⟨rfl, fun m => by rw [if_neg (by omega)]⟩
    rw [e1, e2]
    simp only [Option.bind_some]
    rw [am1 S (by omega)]
    have h59 : r2 59 = nI (S - 1) := by rw [h2, if_neg (by omega), us]
    refine ⟨_, _, rfl, rfl, h59.symm, ?_, ?_, ?_, hT⟩
    · refine (hB.same q1 q2).n_se (fun m hm => ?_) h59 (fun m h3 h4 => ?_)
      · show r2 (60 + m) = r1 m
        rw [h2, h1]
        by_cases d : i ≤ m ∧ m < S - 1
        · rw [if_pos (by omega), if_pos d, q1 _ (by omega), ← b_se hB (by omega)]
          exact congrArg row (by omega)
        · rw [if_neg (by omega), if_neg d, uu (by omega)]; exact (q1 _ (by omega)).trans (b_se hB hm)
      · show r2 m = _
        rw [h2, if_neg (by omega), uu h3]
    · refine ⟨N', S - 1, Q, eN, hN', rfl, by omega, eQ, hQ, hPV, fun a b ha hb2 e => ?_, hb⟩
      replace e : r1 a = r1 b := e
      rw [h1, h1] at e
      by_cases da : i ≤ a ∧ a < S - 1 <;> by_cases db : i ≤ b ∧ b < S - 1
      · rw [if_pos da, if_pos db] at e; have := hd _ _ (by omega) (by omega) e; omega
      · rw [if_pos da, if_neg db] at e; have := hd _ _ (by omega) (by omega) e; omega
      · rw [if_neg da, if_pos db] at e; have := hd _ _ (by omega) (by omega) e; omega
      · rw [if_neg da, if_neg db] at e; exact hd _ _ (by omega) (by omega) e
    · exact hH.to (fun m hm => by show r2 m = _; rw [h2, if_neg (by omega), uu (by omega)]) (fun _ _ => rfl)
  · rw [if_neg (by decide), if_neg (by decide)]
    exact ⟨_, _, rfl, rfl, rfl, hI⟩
theorem atm (a : Int32) : f_X4_isAtMost a 10 = f_X4_isWithin a (-10) 10 := by
  unfold f_X4_isAtMost
  rcases wi a (-10) 10 with ⟨h, -⟩ | ⟨h, -⟩
  · rw [show -(10 : Int32) = -10 by decide, h]; rfl
  · rw [show -(10 : Int32) = -10 by decide, h]; rfl
theorem sp_ok (pr : Nat → Int32) (i w : Nat) (x : Int32) (h : 7 * i + w < 56) : f_X2_setProperty pr (nI i) (nI w) x = some (upd pr (7 * i + w) x) := by
  unfold f_X2_setProperty
  rw [ix7, gd_n h, nI_clamp (by omega)]
theorem app_ok (pr pu : Nat → Int32) (N : Nat) (hN : N < 8) (a b c d e f : Int32) : f_X2_appendThruster pr pu (nI N) a b c d e f = some (nI N, upd (upd (upd (upd (upd (upd (upd pr (7 * N) a) (7 * N + 1) b) (7 * N + 2) c) (7 * N + 3) d) (7 * N + 4) e) (7 * N + 5) f) (7 * N + 6) 0, upd pu N 0, nI (N + 1)) := by
  unfold f_X2_appendThruster
  rw [show f_X2_setProperty pr (nI N) 0 a = _ from sp_ok pr N 0 a (by omega), Option.bind_some]
  rw [show f_X2_setProperty _ (nI N) 1 b = _ from sp_ok _ N 1 b (by omega), Option.bind_some]
  rw [show f_X2_setProperty _ (nI N) 2 c = _ from sp_ok _ N 2 c (by omega), Option.bind_some]
  rw [show f_X2_setProperty _ (nI N) 3 d = _ from sp_ok _ N 3 d (by omega), Option.bind_some]
  rw [show f_X2_setProperty _ (nI N) 4 e = _ from sp_ok _ N 4 e (by omega), Option.bind_some]
  rw [show f_X2_setProperty _ (nI N) 5 f = _ from sp_ok _ N 5 f (by omega), Option.bind_some]
  rw [show f_X2_setProperty _ (nI N) 6 0 = _ from sp_ok _ N 6 0 (by omega), Option.bind_some]
  rw [gd_n hN, nI_clamp (by omega), ap1]
  rfl
theorem lo_hi {a lo hi : Int32} {l h : Int} (hl : lo.toInt = l) (hh : hi.toInt = h) (h1 : ¬ a < lo) (h2 : ¬ hi < a) : l ≤ a.toInt ∧ a.toInt ≤ h := by
  rw [Int32.lt_iff_toInt_lt] at h1 h2
  omega
theorem from1 {a : Int32} {n : Nat} (hn : n < 2 ^ 31) (h1 : ¬ a < 1) (h2 : ¬ nI n < a) : ∃ k, 1 ≤ k ∧ k ≤ n ∧ a = nI k := by
  have h0 : ¬ a < 0 := fun h => h1 (by
    rw [Int32.lt_iff_toInt_lt] at h ⊢
    have e0 : (0 : Int32).toInt = 0 := by decide
    have e1 : (1 : Int32).toInt = 1 := by decide
    omega)
  obtain ⟨k, hk, rfl⟩ := nI_of2 (nI_toInt hn) h0 (nle h2)
  refine ⟨k, ?_, hk, rfl⟩
  rcases Nat.eq_zero_or_pos k with rfl | hp
  · exact absurd (by decide) h1
  · exact hp
theorem eq_addThruster {pr : Nat → Int32} {pu : Nat → Int32} {ta : Nat → Int32} {se : Nat → Int32} {qu : Nat → Int32} {im : Nat → Int32} {su : Nat → Int64} {tc : Int32} {sc : Int32} {rc : Int32} {cn : Int32} {so : Int32} {bt : Nat → Int32} {le : Int32} {hs : Nat → SV} {ol : Int32} {ct : Int32} {row : Nat → Int32} {tot : Nat → Int64} {txt : Nat → Int32} {sav : Int32} {len : Int32} (p0 : Int32) (p1 : Int32) (p2 : Int32) (p3 : Int32) (p4 : Int32) (p5 : Int32) (hI : Inv pr pu ta se qu im su tc sc rc cn so hs ol ct bt le row tot sav txt len) : ∃ q4 q5, f_X4_addThruster ta se qu im su sc rc cn so pr pu tc hs ol ct p0 p1 p2 p3 p4 p5 = some q4 ∧ f_X5_addThruster row tot sav p0 p1 p2 p3 p4 p5 = some q5 ∧ q4.1 = q5.1 ∧ Inv q4.2.1 q4.2.2.1 ta se qu im su q4.2.2.2.1 sc rc cn so q4.2.2.2.2.1 q4.2.2.2.2.2.1 q4.2.2.2.2.2.2 bt le q5.2.1 q5.2.2.1 q5.2.2.2 txt len := by
  obtain ⟨N, rfl, e2, hC⟩ := hI.cur
  have hN := hC.2.2.1
  obtain ⟨k, q, hk, hq, q1, q2, hH⟩ := rec_ok hI
  obtain ⟨hB, hV, hHi, hT⟩ := id hI
  obtain ⟨N', S, Q, eN, hN', eS, hS, eQ, hQ, hPV, hd, hb⟩ := id hV
  have eNN : N' = N := nI_inj (by omega) (by omega) eN.symm
  subst eNN
  unfold f_X4_addThruster f_X5_addThruster f_X4_addThruster_j33 f_X4_addThruster_j34 f_X4_addThruster_j71 f_X4_addThruster_j72 f_X4_addThruster_j84 f_X5_addThruster_j64
  rw [isTank_eq, in_eq, in_eq, in_eq, in_eq, in_eq, atm, atm, g0, c0, e2]
  rcases isTank p4 with h | ⟨h, t, ht, rfl⟩
  · rw [h]; exact ⟨_, _, rfl, rfl, rfl, hI⟩
  rw [h]
  rcases wi p0 (-10) 10 with ⟨h1, -⟩ | ⟨h1, a1, b1⟩
  · rw [h1]
    rcases wi p2 0 3 with ⟨h3, -⟩ | ⟨h3, -⟩ <;> rcases wi p3 1 10 with ⟨h4, -⟩ | ⟨h4, -⟩ <;> rcases wi p5 1 10 with ⟨h5, -⟩ | ⟨h5, -⟩ <;> rw [h3, h4, h5] <;> exact ⟨_, _, rfl, rfl, rfl, hI⟩
  rw [h1]
  rcases wi p1 (-10) 10 with ⟨h2, -⟩ | ⟨h2, a2, b2⟩
  · rw [h2]
    rcases wi p2 0 3 with ⟨h3, -⟩ | ⟨h3, -⟩ <;> rcases wi p3 1 10 with ⟨h4, -⟩ | ⟨h4, -⟩ <;> rcases wi p5 1 10 with ⟨h5, -⟩ | ⟨h5, -⟩ <;> rw [h3, h4, h5] <;> exact ⟨_, _, rfl, rfl, rfl, hI⟩
  rw [h2]
  rcases wi0 p2 3 (by omega) with h3 | ⟨h3, d, hd3, rfl⟩
  · rw [show f_X4_isWithin p2 0 3 = some 0 from h3]; exact ⟨_, _, rfl, rfl, rfl, hI⟩
  rw [show f_X4_isWithin (nI d) 0 3 = some 1 from h3]
  rcases wi p3 1 10 with ⟨h4, -⟩ | ⟨h4, a4, b4⟩
  · rw [h4]; exact ⟨_, _, rfl, rfl, rfl, hI⟩
  rw [h4]
  rcases wi p5 1 10 with ⟨h5, -⟩ | ⟨h5, a5, b5⟩
  · rw [h5]; exact ⟨_, _, rfl, rfl, rfl, hI⟩
  rw [h5]
  simp only [n10, ↓reduceIte, Option.bind_some]
  by_cases h8 : N' = 8
  · subst h8
    rw [if_neg (by decide), if_pos (by decide)]
    exact ⟨_, _, rfl, rfl, rfl, hI⟩
  have hlt : nI N' < 8 := nI_lt (b := 8) (by omega) (by omega)
  have hne : ¬ nI N' = 8 := fun h => h8 (nI_inj (by omega) (by omega) (h : nI N' = nI 8))
  have hN8 : N' < 8 := by omega
  have e0 : q.1 0 = nI N' := (q1 0 (by omega)).trans e2
  rw [if_pos hlt, if_neg hne, hk, hq]
  simp only [Option.bind_some]
  rw [app_ok pr pu N' hN8]
  simp only [Option.bind_some]
  have m1 : (nI N' + 1 : Int32) - 1 = nI N' := by rw [ap1]; exact nI_pred N'
  simp (disch := omega) only [g0, c0, e0, at1, ap1, ap2, ap3, ap4, ap5, ap6, gdS, nI_clamp, uu, us, ix108]
  rw [show nI (N' + 1) - 1 = nI N' from nI_pred N']
  obtain ⟨f, f1, f2, rfl⟩ := from1 (n := 10) (by omega) a4 b4
  obtain ⟨w, w1, w2, rfl⟩ := from1 (n := 10) (by omega) a5 b5
  refine ⟨_, _, rfl, rfl, rfl, ?_, ?_, ?_, hT⟩
  · have g := ((((((((hB.same q1 q2).u_pr (7 * N') (by omega) p0).u_pr (7 * N' + 1) (by omega) p1).u_pr (7 * N' + 2) (by omega) (nI d)).u_pr (7 * N' + 3) (by omega) (nI f)).u_pr (7 * N' + 4) (by omega) (nI t)).u_pr (7 * N' + 5) (by omega) (nI w)).u_pr (7 * N' + 6) (by omega) 0).u_pu N' hN8 0
    have g2 := g.u_tc (nI (N' + 1))
    simp only [← Nat.add_assoc] at g2 ⊢
    exact g2
  · refine ⟨N' + 1, S, Q, rfl, by omega, eS, hS, eQ, hQ, fun i hi => ?_, hd, fun i h1 h2 => hb i (by omega) h2⟩
    show PV (upd (upd (upd (upd (upd (upd (upd pr (7 * N') p0) (7 * N' + 1) p1) (7 * N' + 2) (nI d)) (7 * N' + 3) (nI f)) (7 * N' + 4) (nI t)) (7 * N' + 5) (nI w)) (7 * N' + 6) 0) i
    by_cases c : i = N'
    · subst c
      unfold PV
      simp (disch := omega) only [uu, us]
      exact ⟨lo_hi (by decide) (by decide) a1 b1, lo_hi (by decide) (by decide) a2 b2, ⟨d, by omega, rfl⟩, ⟨f, f1, f2, rfl⟩, ⟨t, ht, rfl⟩, ⟨w, w1, w2, rfl⟩, ⟨0, by omega, rfl⟩⟩
    · have hp := hPV i (by omega)
      unfold PV at hp ⊢
      simp (disch := omega) only [uu]
      exact hp
  · refine hH.to (fun m hm => ?_) (fun _ _ => rfl)
    simp (disch := omega) only [uu]


theorem isTar (a b c : Int32) : f_X5_isTarget a b c = f_X4_isTarget a b c ∧ (f_X4_isTarget a b c = some 0 ∨ f_X4_isTarget a b c = some 1) := by
  unfold f_X4_isTarget f_X5_isTarget
  rw [areAt a b c 40000 (-40000) (by decide), in_eq, in_eq, in_eq]
  rcases wi a (-40000) 40000 with ⟨h1, -⟩ | ⟨h1, -⟩ <;> rcases wi b (-40000) 40000 with ⟨h2, -⟩ | ⟨h2, -⟩ <;> rcases wi c (-40000) 40000 with ⟨h3, -⟩ | ⟨h3, -⟩ <;> rw [h1, h2, h3]
  all_goals first | exact ⟨rfl, .inl rfl⟩ | exact ⟨rfl, .inr rfl⟩
theorem Inv.sets {pr pu ta se qu im : Nat → Int32} {su : Nat → Int64} {tc sc rc cn so : Int32} {hs : Nat → SV} {ol ct : Int32} {bt : Nat → Int32} {le : Int32} {row : Nat → Int32} {tot : Nat → Int64} {sav : Int32} {txt : Nat → Int32} {len : Int32} (hI : Inv pr pu ta se qu im su tc sc rc cn so hs ol ct bt le row tot sav txt len) : ∃ S, sc = nI S ∧ S ≤ 8 ∧ row 59 = nI S ∧ ∀ m, m < 8 → row (60 + m) = se m := by
  obtain ⟨hB, ⟨N, S, Q, -, -, h1, h2, -⟩, -, -⟩ := hI
  exact ⟨S, h1, h2, (b_sc hB).trans h1, fun m hm => b_se hB hm⟩
theorem lg_pos {x : Int64} (h : 0 < x.toInt) : 0 < lg_cmp x 0 ∧ ¬ lg_cmp x 0 ≤ 0 := by
  have z : (0 : Int64).toInt = 0 := by decide
  rcases lg3 x 0 with h1 | h1 | h1
  · rw [h1]; decide
  · have := (lg_eq0 x 0).mp h1
    rw [this, z] at h; omega
  · have : x < 0 := (lg_neg x 0).mp (by rw [h1]; decide)
    rw [Int64.lt_iff_toInt_lt, z] at this; omega
theorem nz_of {x : Int64} (h : 0 < x.toInt) : nzl x = true := by
  have : x ≠ 0 := by
    intro e
    rw [e] at h; exact absurd h (by decide)
  unfold nzl
  simpa using this
theorem two_pos {x : Int64} (h : 0 < x.toInt) (h2 : x.toInt ≤ 120000) : 0 < (2 * x).toInt := by
  rw [Int64.toInt_mul, show (2 : Int64).toInt = 2 from by decide, bmod64 _ (by omega)]; omega
theorem pulse_of {pr ta row : Nat → Int32} {N i : Nat} (hC : Cur pr ta row N) (hi : i < N) {sh bes : Nat → Int64} {de : Int64} (hs : sh i = bes i) (h1 : 0 < de.toInt) (h2 : de.toInt ≤ 120000) (hn : ¬ lg_cmp (sh i) 0 < 0) :
    ∃ v, f_X1_pulseOf sh de (nI i) (pr (7 * i + 5)) = some v ∧ f_X5_pulseOf row bes de (nI i) = some v ∧ (sh i = 0 → v = 0) := by
  have hN := hC.2.2.1
  have h5 := (prop_of hC hi 5 (by omega)).2
  have e1 : f_X5_pulseOf row bes de (nI i) = if lg_cmp (sh i) 0 = 0 then some 0 else (if ((2 * sh i + de) / (2 * de)).toInt32 < pr (7 * i + 5) then (if lg_cmp (2 * sh i) ((pr (7 * i + 5)).toInt64 * de) < 0 then some 0 else some (pr (7 * i + 5))) else some ((2 * sh i + de) / (2 * de)).toInt32) := by
    unfold f_X5_pulseOf
    rw [gd_n (by omega), gd_t (nz_of (two_pos h1 h2))]
    show (f_X5_of row (nI i) (nI 5)).bind _ = _
    rw [h5, Option.bind_some, gd_n (by omega), gd_n (by omega), nI_clamp (by omega), hs]
  have e2 : f_X1_pulseOf sh de (nI i) (pr (7 * i + 5)) = if lg_cmp (sh i) 0 = 0 then some 0 else (if ((2 * sh i + de) / (2 * de)).toInt32 < pr (7 * i + 5) then (if lg_cmp (2 * sh i) ((pr (7 * i + 5)).toInt64 * de) < 0 then some 0 else some (pr (7 * i + 5))) else some ((2 * sh i + de) / (2 * de)).toInt32) := by
    unfold f_X1_pulseOf
    rw [gd_n (by omega), nI_clamp (by omega), gd_t (nz_of (two_pos h1 h2)), if_pos (lg_pos h1).1]
    by_cases c : lg_cmp (sh i) 0 = 0
    · rw [if_pos c, if_pos ((lg_le _ _).mpr (.inl c))]
    · rw [if_neg c, if_neg (fun h => ((lg_le _ _).mp h).elim c hn)]
  have e3 : ∃ v, (if lg_cmp (sh i) 0 = 0 then some (0 : Int32) else (if ((2 * sh i + de) / (2 * de)).toInt32 < pr (7 * i + 5) then (if lg_cmp (2 * sh i) ((pr (7 * i + 5)).toInt64 * de) < 0 then some 0 else some (pr (7 * i + 5))) else some ((2 * sh i + de) / (2 * de)).toInt32)) = some v ∧ (sh i = 0 → v = 0) := by
    by_cases c : lg_cmp (sh i) 0 = 0
    · rw [if_pos c]; exact ⟨0, rfl, fun _ => rfl⟩
    · rw [if_neg c]
      have : sh i ≠ 0 := fun e => c ((lg_eq0 _ _).mpr e)
      by_cases c1 : ((2 * sh i + de) / (2 * de)).toInt32 < pr (7 * i + 5)
      · rw [if_pos c1]
        by_cases c2 : lg_cmp (2 * sh i) ((pr (7 * i + 5)).toInt64 * de) < 0
        · rw [if_pos c2]; exact ⟨_, rfl, fun e => absurd e this⟩
        · rw [if_neg c2]; exact ⟨_, rfl, fun e => absurd e this⟩
      · rw [if_neg c1]; exact ⟨_, rfl, fun e => absurd e this⟩
  obtain ⟨v, hv, h0⟩ := e3
  exact ⟨v, e2.trans hv, e1.trans hv, h0⟩
theorem eq_select {un : Nat → Nat → Int32} {tp : Nat → Int32} {sh : Nat → Int64} {de : Int64} {co : Int64} {ma : Int32} {ru : Int32} {fo : Int32} {pr : Nat → Int32} {pu : Nat → Int32} {ta : Nat → Int32} {se : Nat → Int32} {qu : Nat → Int32} {im : Nat → Int32} {su : Nat → Int64} {tc : Int32} {sc : Int32} {rc : Int32} {cn : Int32} {so : Int32} {bt : Nat → Int32} {le : Int32} {hs : Nat → SV} {ol : Int32} {ct : Int32} {row : Nat → Int32} {tot : Nat → Int64} {tab : Nat → Int64} {goa : Nat → Int64} {bes : Nat → Int64} {tic : Nat → Int64} {txt : Nat → Int32} {sav : Int32} {bwh : Int64} {bpr : Int64} {bse : Int32} {len : Int32} (p0 : Int32) (p1 : Int32) (p2 : Int32) (hI : Inv pr pu ta se qu im su tc sc rc cn so hs ol ct bt le row tot sav txt len) : ∃ q4 q5, f_X4_select pr ta se tc sc un tp sh de co ma ru fo p0 p1 p2 = some q4 ∧ f_X5_select row tab goa bes tic bwh bpr bse p0 p1 p2 = some q5 ∧ q4.1 = q5.1 ∧ Inv pr pu ta se qu im su tc sc rc cn so hs ol ct bt le row tot sav txt len := by
  obtain ⟨N, rfl, e2, hC⟩ := hI.cur
  obtain ⟨S, rfl, hS, h59, hq⟩ := hI.sets
  unfold f_X4_select f_X5_select
  rw [(isTar p0 p1 p2).1]
  rcases (isTar p0 p1 p2).2 with h | h
  · rw [h]; exact ⟨_, _, rfl, rfl, rfl, hI⟩
  · rw [h]
    simp only [n10, ↓reduceIte, Option.bind_some]
    rw [aims_ok, Option.bind_some]
    obtain ⟨c, r, x1, x2, h01, hf, -, -, -, hm, -⟩ := find_rel hC e2 hS h59 hq un tp sh de co ma ru fo p0 p1 p2 goa tab bes tic bwh bpr bse
    rw [x1, x2]
    simp only [Option.bind_some]
    rw [hf]
    rcases h01 with h | h
    · rw [if_pos h, if_pos h]; exact ⟨_, _, rfl, rfl, rfl, hI⟩
    · have n : ¬ r.1 = 0 := by rw [h]; decide
      rw [if_neg n, if_neg n]; exact ⟨_, _, rfl, rfl, hm h, hI⟩
theorem eq_pulse {un : Nat → Nat → Int32} {tp : Nat → Int32} {sh : Nat → Int64} {de : Int64} {co : Int64} {ma : Int32} {ru : Int32} {fo : Int32} {pr : Nat → Int32} {pu : Nat → Int32} {ta : Nat → Int32} {se : Nat → Int32} {qu : Nat → Int32} {im : Nat → Int32} {su : Nat → Int64} {tc : Int32} {sc : Int32} {rc : Int32} {cn : Int32} {so : Int32} {bt : Nat → Int32} {le : Int32} {hs : Nat → SV} {ol : Int32} {ct : Int32} {row : Nat → Int32} {tot : Nat → Int64} {tab : Nat → Int64} {goa : Nat → Int64} {bes : Nat → Int64} {tic : Nat → Int64} {txt : Nat → Int32} {sav : Int32} {bwh : Int64} {bpr : Int64} {bse : Int32} {len : Int32} (p0 : Int32) (p1 : Int32) (p2 : Int32) (p3 : Int32) (hI : Inv pr pu ta se qu im su tc sc rc cn so hs ol ct bt le row tot sav txt len) : ∃ q4 q5, f_X4_pulse pr ta se tc sc un tp sh de co ma ru fo p0 p1 p2 p3 = some q4 ∧ f_X5_pulse row tab goa bes tic bwh bpr bse p0 p1 p2 p3 = some q5 ∧ q4.1 = q5.1 ∧ Inv pr pu ta se qu im su tc sc rc cn so hs ol ct bt le row tot sav txt len := by
  obtain ⟨N, rfl, e2, hC⟩ := hI.cur
  obtain ⟨S, rfl, hS, h59, hq⟩ := hI.sets
  have hN := hC.2.2.1
  unfold f_X4_pulse f_X5_pulse
  rw [(isTar p0 p1 p2).1, isThr_eq, e2]
  rcases isThr N hN p3 with h | ⟨h, i, hi, rfl⟩
  · rw [h]; exact ⟨_, _, rfl, rfl, rfl, hI⟩
  · rw [h]
    simp only [n10, ↓reduceIte, Option.bind_some]
    rcases (isTar p0 p1 p2).2 with h | h
    · rw [h]; exact ⟨_, _, rfl, rfl, rfl, hI⟩
    · rw [h]
      simp only [n10, ↓reduceIte, Option.bind_some]
      rw [aims_ok, Option.bind_some]
      obtain ⟨c, r, x1, x2, h01, hf, f1, f2, f3, hm, f4, f5, f6⟩ := find_rel hC e2 hS h59 hq un tp sh de co ma ru fo p0 p1 p2 goa tab bes tic bwh bpr bse
      rw [x1, x2]
      simp only [Option.bind_some]
      rw [hf]
      rcases h01 with h | h
      · rw [if_pos h, if_pos h]; exact ⟨_, _, rfl, rfl, rfl, hI⟩
      · have n : ¬ r.1 = 0 := by rw [h]; decide
        rw [if_neg n, if_neg n]
        obtain ⟨v, v1, v2, -⟩ := pulse_of (bes := r.2.2.1) hC hi (f1 i (by omega)) f4 f5 (f6 i (by omega)).1
        rw [show f_X2_property pr (nI i) 5 = some (pr (7 * i + 5)) from (prop_of hC hi 5 (by omega)).1]
        simp only [Option.bind_some]
        rw [v1, ← f2, v2]
        exact ⟨_, _, rfl, rfl, rfl, hI⟩
theorem eq_price {un : Nat → Nat → Int32} {tp : Nat → Int32} {sh : Nat → Int64} {de : Int64} {co : Int64} {ma : Int32} {ru : Int32} {fo : Int32} {pr : Nat → Int32} {pu : Nat → Int32} {ta : Nat → Int32} {se : Nat → Int32} {qu : Nat → Int32} {im : Nat → Int32} {su : Nat → Int64} {tc : Int32} {sc : Int32} {rc : Int32} {cn : Int32} {so : Int32} {bt : Nat → Int32} {le : Int32} {hs : Nat → SV} {ol : Int32} {ct : Int32} {row : Nat → Int32} {tot : Nat → Int64} {tab : Nat → Int64} {goa : Nat → Int64} {bes : Nat → Int64} {tic : Nat → Int64} {txt : Nat → Int32} {sav : Int32} {bwh : Int64} {bpr : Int64} {bse : Int32} {len : Int32} (p0 : Int32) (p1 : Int32) (p2 : Int32) (hI : Inv pr pu ta se qu im su tc sc rc cn so hs ol ct bt le row tot sav txt len) : ∃ q4 q5, f_X4_price pr ta se tc sc un tp sh de co ma ru fo p0 p1 p2 = some q4 ∧ f_X5_price row tab goa bes tic bwh bpr bse p0 p1 p2 = some q5 ∧ q4.1 = q5.1 ∧ Inv pr pu ta se qu im su tc sc rc cn so hs ol ct bt le row tot sav txt len := by
  obtain ⟨N, rfl, e2, hC⟩ := hI.cur
  obtain ⟨S, rfl, hS, h59, hq⟩ := hI.sets
  unfold f_X4_price f_X5_price
  rw [(isTar p0 p1 p2).1]
  rcases (isTar p0 p1 p2).2 with h | h
  · rw [h]; exact ⟨_, _, rfl, rfl, rfl, hI⟩
  · rw [h]
    simp only [n10, ↓reduceIte, Option.bind_some]
    rw [aims_ok, Option.bind_some]
    obtain ⟨c, r, x1, x2, h01, hf, -, f2, f3, hm, f4, f5, f6⟩ := find_rel hC e2 hS h59 hq un tp sh de co ma ru fo p0 p1 p2 goa tab bes tic bwh bpr bse
    rw [x1, x2]
    simp only [Option.bind_some]
    rw [hf]
    rcases h01 with h | h
    · rw [if_pos h, if_pos h]; exact ⟨_, _, rfl, rfl, rfl, hI⟩
    · have n : ¬ r.1 = 0 := by rw [h]; decide
      rw [if_neg n, if_neg n, ← f2, ← f3, gd_t (nz_of f4)]
      unfold f_X1_thousandths
      rw [if_neg (lg_pos f4).2, gd_t (nz_of f4)]
      exact ⟨_, _, rfl, rfl, rfl, hI⟩


section RD
variable {pr pu ta se qu im : Nat → Int32} {su : Nat → Int64} {tc sc rc cn so : Int32} {hs : Nat → SV} {ol ct : Int32} {bt : Nat → Int32} {le : Int32} {row : Nat → Int32} {tot : Nat → Int64} {sav : Int32} {txt : Nat → Int32} {len : Int32}
theorem b_pr (h : BR pr pu ta se qu im su tc sc rc cn so row tot 0) {k : Nat} (hk : k < 56) : row (1 + k) = pr k := h.1 k hk
theorem b_pu (h : BR pr pu ta se qu im su tc sc rc cn so row tot 0) {k : Nat} (hk : k < 8) : row (108 + k) = pu k := h.2.1 k hk
theorem b_ta (h : BR pr pu ta se qu im su tc sc rc cn so row tot 0) {k : Nat} (hk : k < 2) : row (57 + k) = ta k := h.2.2.1 k hk
theorem b_se (h : BR pr pu ta se qu im su tc sc rc cn so row tot 0) {k : Nat} (hk : k < 8) : row (60 + k) = se k := h.2.2.2.1 k hk
theorem b_qu (h : BR pr pu ta se qu im su tc sc rc cn so row tot 0) {k : Nat} (hk : k < 30) : row (69 + k) = qu k := h.2.2.2.2.1 k hk
theorem b_im (h : BR pr pu ta se qu im su tc sc rc cn so row tot 0) {k : Nat} (hk : k < 9) : row (99 + k) = im k := h.2.2.2.2.2.1 k hk
theorem b_su (h : BR pr pu ta se qu im su tc sc rc cn so row tot 0) {k : Nat} (hk : k < 3) : tot k = su k := by
  have := h.2.2.2.2.2.2.1 k hk
  rwa [show 3 * 0 + k = k by omega] at this
theorem b_tc (h : BR pr pu ta se qu im su tc sc rc cn so row tot 0) : row 0 = tc := h.2.2.2.2.2.2.2.1
theorem b_sc (h : BR pr pu ta se qu im su tc sc rc cn so row tot 0) : row 59 = sc := h.2.2.2.2.2.2.2.2.1
theorem b_rc (h : BR pr pu ta se qu im su tc sc rc cn so row tot 0) : row 68 = rc := h.2.2.2.2.2.2.2.2.2.1
theorem b_cn (h : BR pr pu ta se qu im su tc sc rc cn so row tot 0) : row 117 = cn := h.2.2.2.2.2.2.2.2.2.2.1
theorem b_so (h : BR pr pu ta se qu im su tc sc rc cn so row tot 0) : row 116 = so := h.2.2.2.2.2.2.2.2.2.2.2
end RD
theorem prop_ok (pr : Nat → Int32) (i w : Nat) (h : 7 * i + w < 56) : f_X2_property pr (nI i) (nI w) = some (pr (7 * i + w)) := by
  unfold f_X2_property
  rw [ix7, gd_n h, nI_clamp (by omega)]
theorem of_ok (row : Nat → Int32) (i w : Nat) (h : 1 + 7 * i + w < 708) : f_X5_of row (nI i) (nI w) = some (row (1 + 7 * i + w)) := by
  unfold f_X5_of
  rw [ix1, gd_n h, nI_clamp (by omega)]
/-- what is read of the present state, by class and reference -/
def Cur (pr ta : Nat → Int32) (row : Nat → Int32) (N : Nat) : Prop := (∀ k, k < 56 → row (1 + k) = pr k) ∧ (∀ k, k < 2 → row (57 + k) = ta k) ∧ N ≤ 8 ∧ ∀ i, i < N → PV pr i
theorem prop_of {pr ta row : Nat → Int32} {N i : Nat} (hC : Cur pr ta row N) (hi : i < N) (w : Nat) (hw : w < 7) : f_X2_property pr (nI i) (nI w) = some (pr (7 * i + w)) ∧ f_X5_of row (nI i) (nI w) = some (pr (7 * i + w)) := by
  have hN := hC.2.2.1
  refine ⟨prop_ok _ _ _ (by omega), ?_⟩
  rw [of_ok _ _ _ (by omega), Nat.add_assoc, hC.1 _ (by omega)]
theorem fuel_of {pr ta row : Nat → Int32} {N i : Nat} (hC : Cur pr ta row N) (hi : i < N) : ∃ t, t < 2 ∧ pr (7 * i + 4) = nI t ∧ f_X2_fuelOf pr ta (nI i) = some (ta t) ∧ f_X5_fuelOf row (nI i) = some (ta t) := by
  obtain ⟨t, ht, e⟩ := (hC.2.2.2 i hi).2.2.2.2.1
  obtain ⟨h1, h2⟩ := prop_of hC hi 4 (by omega)
  refine ⟨t, ht, e, ?_, ?_⟩
  · unfold f_X2_fuelOf
    rw [show (4 : Int32) = nI 4 from rfl, h1, Option.bind_some, e, gd_n ht, nI_clamp (by omega)]
  · unfold f_X5_fuelOf
    rw [show (4 : Int32) = nI 4 from rfl, h2, Option.bind_some, e, show (57 : Int32) = nI 57 from rfl, nI_add, gd_n (by omega), nI_clamp (by omega), hC.2.1 t ht]
theorem usable_of {pr ta row : Nat → Int32} {N i : Nat} (hC : Cur pr ta row N) (hi : i < N) : ∃ u, f_X2_isUsable pr ta (nI i) = some u ∧ f_X5_isUsable row (nI i) = some u ∧ (u = 0 ∨ u = 1) ∧ (u = 1 → pr (7 * i + 6) = 0) := by
  obtain ⟨h1, h2⟩ := prop_of hC hi 6 (by omega)
  obtain ⟨t, -, -, h3, h4⟩ := fuel_of hC hi
  unfold f_X2_isUsable f_X5_isUsable
  rw [show (6 : Int32) = nI 6 from rfl, h1, h2]
  simp only [Option.bind_some]
  by_cases c : pr (7 * i + 6) = 0
  · rw [if_pos c, if_pos c, h3, h4]
    simp only [Option.bind_some]
    by_cases d : ta t < 600
    · rw [if_pos d]; exact ⟨0, rfl, rfl, Or.inl rfl, fun h => absurd h (by decide)⟩
    · rw [if_neg d]; exact ⟨1, rfl, rfl, Or.inr rfl, fun _ => c⟩
  · rw [if_neg c, if_neg c]; exact ⟨0, rfl, rfl, Or.inl rfl, fun h => absurd h (by decide)⟩
theorem running_of {pr ta row : Nat → Int32} {N i : Nat} (hC : Cur pr ta row N) (hi : i < N) : ∃ u, f_X2_isRunning pr ta (nI i) = some u ∧ f_X5_isRunning row (nI i) = some u ∧ (u = 0 ∨ u = 1) ∧ (u = 1 → pr (7 * i + 6) = 2) := by
  obtain ⟨h1, h2⟩ := prop_of hC hi 6 (by omega)
  obtain ⟨g1, g2⟩ := prop_of hC hi 3 (by omega)
  obtain ⟨t, -, -, h3, h4⟩ := fuel_of hC hi
  unfold f_X2_isRunning f_X5_isRunning
  rw [show (6 : Int32) = nI 6 from rfl, show (3 : Int32) = nI 3 from rfl, h1, h2]
  simp only [Option.bind_some]
  by_cases c : pr (7 * i + 6) = 2
  · rw [if_pos c, if_pos c, h3, h4]
    simp only [Option.bind_some]
    rw [g1, g2]
    simp only [Option.bind_some]
    by_cases d : ta t < 20 * pr (7 * i + 3)
    · rw [if_pos d]; exact ⟨0, rfl, rfl, Or.inl rfl, fun h => absurd h (by decide)⟩
    · rw [if_neg d]; exact ⟨1, rfl, rfl, Or.inr rfl, fun _ => c⟩
  · rw [if_neg c, if_neg c]; exact ⟨0, rfl, rfl, Or.inl rfl, fun h => absurd h (by decide)⟩
/-- a part of a unit impulse -/
def unitP (pr : Nat → Int32) (i k : Nat) : Int32 :=
  let d := (pr (7 * i + 2)).toNatClampNeg
  if k = 0 then pr (7 * i + 3) * dX d else if k = 1 then pr (7 * i + 3) * dY d else pr (7 * i + 3) * (pr (7 * i) * dY d - pr (7 * i + 1) * dX d)
theorem nI_inj {a b : Nat} (ha : a < 2 ^ 31) (hb : b < 2 ^ 31) (h : nI a = nI b) : a = b := (nI_eq ha hb).mp h
theorem ix57 (i : Nat) : (57 : Int32) + nI i = nI (57 + i) := nI_add 57 i
theorem ix108 (i : Nat) : (108 : Int32) + nI i = nI (108 + i) := nI_add 108 i
theorem ix69 (i : Nat) : (69 : Int32) + nI i = nI (69 + i) := nI_add 69 i
theorem unit_of {pr ta row : Nat → Int32} {N i : Nat} (hC : Cur pr ta row N) (hi : i < N) (k : Nat) (hk : k < 3) : f_X2_unitPart pr (nI i) (nI k) = some (unitP pr i k) ∧ f_X5_unitOf row (nI i) (nI k) = some (unitP pr i k) := by
  obtain ⟨d, hd, ed⟩ := (hC.2.2.2 i hi).2.2.1
  obtain ⟨a0, b0⟩ := prop_of hC hi 0 (by omega)
  obtain ⟨a1, b1⟩ := prop_of hC hi 1 (by omega)
  obtain ⟨a2, b2⟩ := prop_of hC hi 2 (by omega)
  obtain ⟨a3, b3⟩ := prop_of hC hi 3 (by omega)
  have e0 : (0 : Int32) = nI 0 := rfl
  have e1 : (1 : Int32) = nI 1 := rfl
  have ec : (nI d).toNatClampNeg = d := nI_clamp (by omega)
  constructor
  · unfold f_X2_unitPart unitP
    rw [show (3 : Int32) = nI 3 from rfl, show (2 : Int32) = nI 2 from rfl, a3, Option.bind_some, a2, Option.bind_some, ed, gd_n hd, Option.bind_some, gd_n hd, ec]
    match k, hk with
    | 0, _ => rfl
    | 1, _ => rfl
    | 2, _ =>
      rw [if_neg (by decide), if_neg (by decide), e0, e1, a0, Option.bind_some, a1, Option.bind_some]
      rfl
  · unfold f_X5_unitOf unitP
    rw [show (2 : Int32) = nI 2 from rfl, b2, Option.bind_some, ed, ec]
    unfold f_X5_unitOf_j25 f_X5_unitOf_j46 f_X5_unitOf_j92
    rw [show (3 : Int32) = nI 3 from rfl, b3]
    simp only [Option.bind_some, e0, e1, b0, b1]
    match d, hd, k, hk with
    | 0, _, 0, _ => rfl
    | 1, _, 0, _ => rfl
    | 2, _, 0, _ => rfl
    | 3, _, 0, _ => rfl
    | 0, _, 1, _ => rfl
    | 1, _, 1, _ => rfl
    | 2, _, 1, _ => rfl
    | 3, _, 1, _ => rfl
    | 0, _, 2, _ => rfl
    | 1, _, 2, _ => rfl
    | 2, _, 2, _ => rfl
    | 3, _, 2, _ => rfl
theorem Inv.cur {pr pu ta se qu im : Nat → Int32} {su : Nat → Int64} {tc sc rc cn so : Int32} {hs : Nat → SV} {ol ct : Int32} {bt : Nat → Int32} {le : Int32} {row : Nat → Int32} {tot : Nat → Int64} {sav : Int32} {txt : Nat → Int32} {len : Int32} (hI : Inv pr pu ta se qu im su tc sc rc cn so hs ol ct bt le row tot sav txt len) : ∃ N, tc = nI N ∧ row 0 = nI N ∧ Cur pr ta row N := by
  obtain ⟨hB, ⟨N, S, Q, h1, h2, -, -, -, -, h3, -⟩, -, -⟩ := hI
  exact ⟨N, h1, (b_tc hB).trans h1, fun k hk => b_pr hB hk, fun k hk => b_ta hB hk, h2, h3⟩
theorem n10 : ((1 : Int32) = 0) = False := by decide
theorem eq_thrusters {pr : Nat → Int32} {pu : Nat → Int32} {ta : Nat → Int32} {se : Nat → Int32} {qu : Nat → Int32} {im : Nat → Int32} {su : Nat → Int64} {tc : Int32} {sc : Int32} {rc : Int32} {cn : Int32} {so : Int32} {bt : Nat → Int32} {le : Int32} {hs : Nat → SV} {ol : Int32} {ct : Int32} {row : Nat → Int32} {tot : Nat → Int64} {txt : Nat → Int32} {sav : Int32} {len : Int32} (hI : Inv pr pu ta se qu im su tc sc rc cn so hs ol ct bt le row tot sav txt len) : ∃ q4 q5, f_X4_thrusters tc = some q4 ∧ f_X5_thrusters row = some q5 ∧ q4 = q5 ∧ Inv pr pu ta se qu im su tc sc rc cn so hs ol ct bt le row tot sav txt len := by
  exact ⟨tc, row 0, rfl, rfl, (b_tc hI.1).symm, hI⟩
theorem eq_queued {pr : Nat → Int32} {pu : Nat → Int32} {ta : Nat → Int32} {se : Nat → Int32} {qu : Nat → Int32} {im : Nat → Int32} {su : Nat → Int64} {tc : Int32} {sc : Int32} {rc : Int32} {cn : Int32} {so : Int32} {bt : Nat → Int32} {le : Int32} {hs : Nat → SV} {ol : Int32} {ct : Int32} {row : Nat → Int32} {tot : Nat → Int64} {txt : Nat → Int32} {sav : Int32} {len : Int32} (hI : Inv pr pu ta se qu im su tc sc rc cn so hs ol ct bt le row tot sav txt len) : ∃ q4 q5, f_X4_queued rc = some q4 ∧ f_X5_queued row = some q5 ∧ q4 = q5 ∧ Inv pr pu ta se qu im su tc sc rc cn so hs ol ct bt le row tot sav txt len := by
  exact ⟨rc, row 68, rfl, rfl, (b_rc hI.1).symm, hI⟩
theorem eq_cycleCount {pr : Nat → Int32} {pu : Nat → Int32} {ta : Nat → Int32} {se : Nat → Int32} {qu : Nat → Int32} {im : Nat → Int32} {su : Nat → Int64} {tc : Int32} {sc : Int32} {rc : Int32} {cn : Int32} {so : Int32} {bt : Nat → Int32} {le : Int32} {hs : Nat → SV} {ol : Int32} {ct : Int32} {row : Nat → Int32} {tot : Nat → Int64} {txt : Nat → Int32} {sav : Int32} {len : Int32} (hI : Inv pr pu ta se qu im su tc sc rc cn so hs ol ct bt le row tot sav txt len) : ∃ q4 q5, f_X4_cycleCount cn = some q4 ∧ f_X5_cycleCount row = some q5 ∧ q4 = q5 ∧ Inv pr pu ta se qu im su tc sc rc cn so hs ol ct bt le row tot sav txt len := by
  exact ⟨cn, row 117, rfl, rfl, (b_cn hI.1).symm, hI⟩
theorem eq_fuel {pr : Nat → Int32} {pu : Nat → Int32} {ta : Nat → Int32} {se : Nat → Int32} {qu : Nat → Int32} {im : Nat → Int32} {su : Nat → Int64} {tc : Int32} {sc : Int32} {rc : Int32} {cn : Int32} {so : Int32} {bt : Nat → Int32} {le : Int32} {hs : Nat → SV} {ol : Int32} {ct : Int32} {row : Nat → Int32} {tot : Nat → Int64} {txt : Nat → Int32} {sav : Int32} {len : Int32} (p0 : Int32) (hI : Inv pr pu ta se qu im su tc sc rc cn so hs ol ct bt le row tot sav txt len) : ∃ q4 q5, f_X4_fuel ta p0 = some q4 ∧ f_X5_fuel row p0 = some q5 ∧ q4 = q5 ∧ Inv pr pu ta se qu im su tc sc rc cn so hs ol ct bt le row tot sav txt len := by
  unfold f_X4_fuel f_X5_fuel
  rw [isTank_eq]
  rcases isTank p0 with h | ⟨h, i, hi, rfl⟩
  · rw [h]; exact ⟨_, _, rfl, rfl, rfl, hI⟩
  · rw [h]
    simp only [Option.bind_some]
    rw [if_neg (by decide), if_neg (by decide), gd_n hi, gd_e (ix57 i) (by omega), nI_clamp (by omega), cl_e (ix57 i)]
    exact ⟨_, _, rfl, rfl, (b_ta hI.1 hi).symm, hI⟩
theorem eq_fired {pr : Nat → Int32} {pu : Nat → Int32} {ta : Nat → Int32} {se : Nat → Int32} {qu : Nat → Int32} {im : Nat → Int32} {su : Nat → Int64} {tc : Int32} {sc : Int32} {rc : Int32} {cn : Int32} {so : Int32} {bt : Nat → Int32} {le : Int32} {hs : Nat → SV} {ol : Int32} {ct : Int32} {row : Nat → Int32} {tot : Nat → Int64} {txt : Nat → Int32} {sav : Int32} {len : Int32} (p0 : Int32) (hI : Inv pr pu ta se qu im su tc sc rc cn so hs ol ct bt le row tot sav txt len) : ∃ q4 q5, f_X4_fired pu tc p0 = some q4 ∧ f_X5_fired row p0 = some q5 ∧ q4 = q5 ∧ Inv pr pu ta se qu im su tc sc rc cn so hs ol ct bt le row tot sav txt len := by
  obtain ⟨N, rfl, e2, hC⟩ := hI.cur
  have hN := hC.2.2.1
  unfold f_X4_fired f_X5_fired
  rw [isThr_eq, e2]
  rcases isThr N hC.2.2.1 p0 with h | ⟨h, i, hi, rfl⟩
  · rw [h]; exact ⟨_, _, rfl, rfl, rfl, hI⟩
  · rw [h]
    simp only [Option.bind_some]
    rw [if_neg (by decide), if_neg (by decide), gd_n (by omega), gd_e (ix108 i) (by omega), nI_clamp (by omega), cl_e (ix108 i)]
    exact ⟨_, _, rfl, rfl, (b_pu hI.1 (by omega)).symm, hI⟩
theorem eq_total {pr : Nat → Int32} {pu : Nat → Int32} {ta : Nat → Int32} {se : Nat → Int32} {qu : Nat → Int32} {im : Nat → Int32} {su : Nat → Int64} {tc : Int32} {sc : Int32} {rc : Int32} {cn : Int32} {so : Int32} {bt : Nat → Int32} {le : Int32} {hs : Nat → SV} {ol : Int32} {ct : Int32} {row : Nat → Int32} {tot : Nat → Int64} {txt : Nat → Int32} {sav : Int32} {len : Int32} (p0 : Int32) (hI : Inv pr pu ta se qu im su tc sc rc cn so hs ol ct bt le row tot sav txt len) : ∃ q4 q5, f_X4_total su p0 = some q4 ∧ f_X5_total tot p0 = some q5 ∧ q4 = q5 ∧ Inv pr pu ta se qu im su tc sc rc cn so hs ol ct bt le row tot sav txt len := by
  unfold f_X4_total f_X5_total
  rw [isPart_eq]
  rcases isPart p0 with h | ⟨h, i, hi, rfl⟩
  · rw [h]; exact ⟨_, _, rfl, rfl, rfl, hI⟩
  · rw [h]
    simp only [Option.bind_some]
    rw [if_neg (by decide), if_neg (by decide), gd_n hi, gd_n (by omega), nI_clamp (by omega)]
    exact ⟨_, _, rfl, rfl, (b_su hI.1 hi).symm, hI⟩
theorem eq_unit {pr : Nat → Int32} {pu : Nat → Int32} {ta : Nat → Int32} {se : Nat → Int32} {qu : Nat → Int32} {im : Nat → Int32} {su : Nat → Int64} {tc : Int32} {sc : Int32} {rc : Int32} {cn : Int32} {so : Int32} {bt : Nat → Int32} {le : Int32} {hs : Nat → SV} {ol : Int32} {ct : Int32} {row : Nat → Int32} {tot : Nat → Int64} {txt : Nat → Int32} {sav : Int32} {len : Int32} (p0 : Int32) (p1 : Int32) (hI : Inv pr pu ta se qu im su tc sc rc cn so hs ol ct bt le row tot sav txt len) : ∃ q4 q5, f_X4_unit pr tc p0 p1 = some q4 ∧ f_X5_unit row p0 p1 = some q5 ∧ q4 = q5 ∧ Inv pr pu ta se qu im su tc sc rc cn so hs ol ct bt le row tot sav txt len := by
  obtain ⟨N, rfl, e2, hC⟩ := hI.cur
  unfold f_X4_unit f_X5_unit
  rw [isThr_eq, isPart_eq, e2]
  rcases isThr N hC.2.2.1 p0 with h | ⟨h, i, hi, rfl⟩
  · rw [h]; exact ⟨_, _, rfl, rfl, rfl, hI⟩
  · rw [h]
    simp only [Option.bind_some]
    rw [if_neg (by decide), if_neg (by decide)]
    rcases isPart p1 with h | ⟨h, k, hk, rfl⟩
    · rw [h]; exact ⟨_, _, rfl, rfl, rfl, hI⟩
    · rw [h]
      simp only [Option.bind_some]
      rw [if_neg (by decide), if_neg (by decide), (unit_of hC hi k hk).1, (unit_of hC hi k hk).2]
      exact ⟨_, _, rfl, rfl, rfl, hI⟩
theorem eq_requested {pr : Nat → Int32} {pu : Nat → Int32} {ta : Nat → Int32} {se : Nat → Int32} {qu : Nat → Int32} {im : Nat → Int32} {su : Nat → Int64} {tc : Int32} {sc : Int32} {rc : Int32} {cn : Int32} {so : Int32} {bt : Nat → Int32} {le : Int32} {hs : Nat → SV} {ol : Int32} {ct : Int32} {row : Nat → Int32} {tot : Nat → Int64} {txt : Nat → Int32} {sav : Int32} {len : Int32} (p0 : Int32) (p1 : Int32) (hI : Inv pr pu ta se qu im su tc sc rc cn so hs ol ct bt le row tot sav txt len) : ∃ q4 q5, f_X4_requested qu rc p0 p1 = some q4 ∧ f_X5_requested row p0 p1 = some q5 ∧ q4 = q5 ∧ Inv pr pu ta se qu im su tc sc rc cn so hs ol ct bt le row tot sav txt len := by
  obtain ⟨hB, ⟨N, S, Q, -, -, -, -, rfl, hQ, -, -⟩, -, -⟩ := id hI
  have eR := b_rc hB
  unfold f_X4_requested f_X5_requested
  rw [isPart_eq, isPlace_eq, eR]
  rcases isPlace Q hQ p0 with h | ⟨h, i, hi, rfl⟩
  · rw [h]; exact ⟨_, _, rfl, rfl, rfl, hI⟩
  · rw [h]
    simp only [Option.bind_some]
    rw [if_neg (by decide), if_neg (by decide)]
    rcases isPart p1 with h | ⟨h, k, hk, rfl⟩
    · rw [h]; exact ⟨_, _, rfl, rfl, rfl, hI⟩
    · rw [h]
      simp only [Option.bind_some]
      have ex : (69 + 3 * nI i) + nI k = nI (69 + (3 * i + k)) := by
        rw [show (3 : Int32) = nI 3 from rfl, show (69 : Int32) = nI 69 from rfl, pk_mul, nI_add, nI_add, Nat.add_assoc]
      rw [if_neg (by decide), if_neg (by decide), gd_e (ix3 i k) (by omega), gd_e ex (by omega), cl_e (ix3 i k), cl_e ex]
      exact ⟨_, _, rfl, rfl, (b_qu hB (by omega)).symm, hI⟩
theorem eq_impulse {pr : Nat → Int32} {pu : Nat → Int32} {ta : Nat → Int32} {se : Nat → Int32} {qu : Nat → Int32} {im : Nat → Int32} {su : Nat → Int64} {tc : Int32} {sc : Int32} {rc : Int32} {cn : Int32} {so : Int32} {bt : Nat → Int32} {le : Int32} {hs : Nat → SV} {ol : Int32} {ct : Int32} {row : Nat → Int32} {tot : Nat → Int64} {txt : Nat → Int32} {sav : Int32} {len : Int32} (p0 : Int32) (p1 : Int32) (hI : Inv pr pu ta se qu im su tc sc rc cn so hs ol ct bt le row tot sav txt len) : ∃ q4 q5, f_X4_impulse im p0 p1 = some q4 ∧ f_X5_impulse row p0 p1 = some q5 ∧ q4 = q5 ∧ Inv pr pu ta se qu im su tc sc rc cn so hs ol ct bt le row tot sav txt len := by
  unfold f_X4_impulse f_X5_impulse
  rw [isPart_eq, in_eq]
  rcases isPart p1 with h | ⟨h, k, hk, rfl⟩
  · rw [h]; exact ⟨_, _, rfl, rfl, rfl, hI⟩
  · rw [h]
    simp only [Option.bind_some]
    rw [if_neg (by decide), if_neg (by decide)]
    rcases wi0 p0 2 (by omega) with h | ⟨h, i, hi, rfl⟩
    · rw [show (2 : Int32) = nI 2 from rfl, h]; exact ⟨_, _, rfl, rfl, rfl, hI⟩
    · rw [show (2 : Int32) = nI 2 from rfl, h]
      simp only [Option.bind_some]
      have ex : (99 + 3 * nI i) + nI k = nI (99 + (3 * i + k)) := by
        rw [show (3 : Int32) = nI 3 from rfl, show (99 : Int32) = nI 99 from rfl, pk_mul, nI_add, nI_add, Nat.add_assoc]
      unfold f_X2_impulsePart
      rw [if_neg (by decide), if_neg (by decide), gd_e (ix3 i k) (by omega), gd_e ex (by omega), cl_e (ix3 i k), cl_e ex]
      exact ⟨_, _, rfl, rfl, (b_im hI.1 (by omega)).symm, hI⟩
theorem eq_thruster {pr : Nat → Int32} {pu : Nat → Int32} {ta : Nat → Int32} {se : Nat → Int32} {qu : Nat → Int32} {im : Nat → Int32} {su : Nat → Int64} {tc : Int32} {sc : Int32} {rc : Int32} {cn : Int32} {so : Int32} {bt : Nat → Int32} {le : Int32} {hs : Nat → SV} {ol : Int32} {ct : Int32} {row : Nat → Int32} {tot : Nat → Int64} {txt : Nat → Int32} {sav : Int32} {len : Int32} (p0 : Int32) (p1 : Int32) (hI : Inv pr pu ta se qu im su tc sc rc cn so hs ol ct bt le row tot sav txt len) : ∃ q4 q5, f_X4_thruster pr ta tc p0 p1 = some q4 ∧ f_X5_thruster row p0 p1 = some q5 ∧ q4 = q5 ∧ Inv pr pu ta se qu im su tc sc rc cn so hs ol ct bt le row tot sav txt len := by
  obtain ⟨N, rfl, e2, hC⟩ := hI.cur
  unfold f_X4_thruster f_X5_thruster
  rw [isThr_eq, in_eq, e2]
  rcases isThr N hC.2.2.1 p0 with h | ⟨h, i, hi, rfl⟩
  · rw [h]; exact ⟨_, _, rfl, rfl, rfl, hI⟩
  · rw [h]
    simp only [n10, ↓reduceIte, Option.bind_some]
    rcases wi0 p1 8 (by omega) with h | ⟨h, w, hw, rfl⟩
    · rw [show (8 : Int32) = nI 8 from rfl, h]; exact ⟨_, _, rfl, rfl, rfl, hI⟩
    · rw [show f_X4_isWithin (nI w) 0 8 = some 1 from h]
      simp only [n10, ↓reduceIte, Option.bind_some]
      unfold f_X5_thruster_j43
      obtain ⟨u, u1, u2, -⟩ := usable_of hC hi
      obtain ⟨v, v1, v2, -⟩ := running_of hC hi
      rw [u1, u2, v1, v2]
      simp only [Option.bind_some]
      by_cases c7 : w = 7
      · subst c7
        simp only [show (nI 7 = 7) = True by decide, show ((7 : Int32) ≤ nI 7) = True by decide, ↓reduceIte]
        by_cases c : u = 0
        · rw [if_pos c]; exact ⟨_, _, rfl, rfl, rfl, hI⟩
        · rw [if_neg c]; exact ⟨_, _, rfl, rfl, rfl, hI⟩
      · have n7 : ¬ nI w = 7 := fun h => c7 (nI_inj (by omega) (by omega) (h : nI w = nI 7))
        rw [if_neg n7, if_neg n7]
        by_cases c8 : w = 8
        · subst c8
          simp only [show (nI 8 = 8) = True by decide, show ((7 : Int32) ≤ nI 8) = True by decide, ↓reduceIte]
          by_cases c : v = 0
          · rw [if_pos c]; exact ⟨_, _, rfl, rfl, rfl, hI⟩
          · rw [if_neg c]; exact ⟨_, _, rfl, rfl, rfl, hI⟩
        · have n8 : ¬ nI w = 8 := fun h => c8 (nI_inj (by omega) (by omega) (h : nI w = nI 8))
          have nl : ¬ (7 : Int32) ≤ nI w := fun h => by
            have := (nI_leI (a := 7) (b := w) (by omega) (by omega)).mp h
            omega
          rw [if_neg n8, if_neg nl, (prop_of hC hi w (by omega)).1, (prop_of hC hi w (by omega)).2]
          exact ⟨_, _, rfl, rfl, rfl, hI⟩


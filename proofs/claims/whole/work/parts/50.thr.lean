/-- a thruster's price of a tick: its force times how dear its tank is -/
theorem price_of {pr ta row : Nat → Int32} {N i : Nat} (hC : Cur pr ta row N) (hi : i < N) : ∃ d, (d = 1 ∨ d = 2) ∧ f_X2_priceOfTick pr ta (nI i) = some (pr (7 * i + 3) * d) ∧ f_X5_dear row (nI i) = some d := by
  obtain ⟨t, ht, e4, f1, f2⟩ := fuel_of hC hi
  have h4 := prop_of hC hi 4 (by omega)
  have h3 := prop_of hC hi 3 (by omega)
  have s1 : (1 : Int32) - nI t = nI (1 - t) ∧ (58 : Int32) - nI t = nI (58 - t) := by
    match t, ht with
    | 0, _ => decide
    | 1, _ => decide
  have r1 : row (58 - t) = ta (1 - t) := by rw [← hC.2.1 (1 - t) (by omega)]; exact congrArg row (by omega)
  have r2 : row (57 + t) = ta t := hC.2.1 t ht
  have e : ∃ d : Int32, (d = 1 ∨ d = 2) ∧ (if ta (1 - t) ≤ ta t then (1 : Int32) else 2) = d := by
    split
    · exact ⟨1, .inl rfl, rfl⟩
    · exact ⟨2, .inr rfl, rfl⟩
  obtain ⟨d, hd, ed⟩ := e
  refine ⟨d, hd, ?_, ?_⟩
  · unfold f_X2_priceOfTick
    show (f_X2_property pr (nI i) (nI 4)).bind _ = _
    rw [h4.1, Option.bind_some, e4, s1.1, gd_n (by omega), nI_clamp (by omega)]
    show (f_X2_property pr (nI i) (nI 3)).bind _ = _
    rw [h3.1, Option.bind_some, f1, Option.bind_some, ← ed]
    split <;> rfl
  · unfold f_X5_dear
    show (f_X5_of row (nI i) (nI 4)).bind _ = _
    rw [h4.2, Option.bind_some, e4, ix57, gd_n (by omega)]
    show (f_X5_of row (nI i) (nI 4)).bind _ = _
    rw [h4.2, Option.bind_some, e4, s1.2, gd_n (by omega), nI_clamp (by omega), nI_clamp (by omega), r1, r2, ← ed]
    split <;> rfl
def Un (pr : Nat → Int32) (N : Nat) (un : Nat → Nat → Int32) : Prop := ∀ i, i < N → ∀ k, k < 3 → un i k = unitP pr i k
def Tp (pr ta : Nat → Int32) (N : Nat) (tp : Nat → Int32) : Prop := ∀ i, i < N → f_X2_priceOfTick pr ta (nI i) = some (tp i)
theorem uR {un : Nat → Nat → Int32} {k : Nat} {f : Nat → Int32} : updR un k f k = f := by unfold updR; simp
theorem uRn {un : Nat → Nat → Int32} {k j : Nat} {f : Nat → Int32} (h : j ≠ k) : updR un k f j = un j := by unfold updR; simp [h]
theorem readRow {pr ta row : Nat → Int32} {N i : Nat} (hC : Cur pr ta row N) (hi : i < N) (un : Nat → Nat → Int32) :
    ∃ r, lp (f_X1_readThrusters_b31 pr (nI i)) 1000 (un, 0) = some r ∧ (∀ k, k < 3 → r i k = unitP pr i k) ∧ ∀ j, j ≠ i → r j = un j := by
  have hN := hC.2.2.1
  refine lp_run (fun k (s : (Nat → Nat → Int32) × Int32) => s.2 = nI k ∧ (∀ m, m < k → s.1 i m = unitP pr i m) ∧ ∀ j, j ≠ i → s.1 j = un j) 3 _ ?_ 1000 0 _ (by decide) (by decide) ⟨rfl, fun m hm => by omega, fun _ _ => rfl⟩
  rintro k ⟨z, y⟩ hk ⟨hy, h1, h2⟩
  replace hy : y = nI k := hy
  subst hy
  unfold f_X1_readThrusters_b31
  show (k < 3 ∧ ∃ s', (if (3 : Int32) ≤ nI k then _ else _) = _ ∧ _) ∨ (∃ r, (if (3 : Int32) ≤ nI k then _ else _) = _ ∧ _)
  by_cases c : k < 3
  · left
    refine ⟨c, ?_⟩
    rw [if_neg (show ¬ (3 : Int32) ≤ nI k from nI_ge (b := 3) c (by omega)), gd_n (by omega), (unit_of hC hi k c).1, Option.bind_some]
    show ∃ s', gd (ib (nI k) 3) _ = _ ∧ _
    rw [gd_n c]
    refine ⟨_, rfl, nI_add k 1, fun m hm => ?_, fun j hj => ?_⟩
    · show updR z (nI i).toNatClampNeg (upd (z (nI i).toNatClampNeg) (nI k).toNatClampNeg _) i m = _
      rw [nI_clamp (by omega), nI_clamp (by omega), uR]
      by_cases e : m = k
      · subst e; rw [us]
      · rw [uu e]; exact h1 m (by omega)
    · show updR z (nI i).toNatClampNeg _ j = _
      rw [nI_clamp (by omega), uRn hj]; exact h2 j hj
  · have : k = 3 := by omega
    subst this
    right
    exact ⟨_, rfl, h1, h2⟩
theorem readThr {pr ta row : Nat → Int32} {N : Nat} (hC : Cur pr ta row N) (e2 : row 0 = nI N) (un : Nat → Nat → Int32) (tp : Nat → Int32) (ru : Int32) :
    ∃ un' tp' m, f_X1_readThrusters pr ta (nI N) un tp ru = some (un', tp', m) ∧ Un pr N un' ∧ Tp pr ta N tp' ∧ f_X5_running row = some m := by
  have hN := hC.2.2.1
  obtain ⟨m, m1, m2, -⟩ := run_of hC e2
  have L : ∃ r, lp (f_X1_readThrusters_b10 pr ta (nI N)) 1000 (un, tp, 0) = some r ∧ Un pr N r.1 ∧ Tp pr ta N r.2 := by
    refine lp_run (fun i (s : (Nat → Nat → Int32) × (Nat → Int32) × Int32) => s.2.2 = nI i ∧ Un pr i s.1 ∧ Tp pr ta i s.2.1) N _ ?_ 1000 0 _ (by omega) (by omega) ⟨rfl, fun i hi => by omega, fun i hi => by omega⟩
    rintro i ⟨z, t, y⟩ hi ⟨hy, h1, h2⟩
    replace hy : y = nI i := hy
    replace h1 : Un pr i z := h1
    replace h2 : Tp pr ta i t := h2
    subst hy
    unfold f_X1_readThrusters_b10
    show (i < N ∧ ∃ s', (if nI N ≤ nI i then _ else _) = _ ∧ _) ∨ (∃ r, (if nI N ≤ nI i then _ else _) = _ ∧ _)
    by_cases c : i < N
    · left
      refine ⟨c, ?_⟩
      obtain ⟨d, -, p1, -⟩ := price_of hC c
      obtain ⟨r, r1, r2, r3⟩ := readRow hC c z
      rw [if_neg (nI_ge c (by omega))]
      show ∃ s', (f_X2_priceOfTick pr ta (nI i)).bind _ = _ ∧ _
      rw [p1, Option.bind_some]
      show ∃ s', gd (ib (nI i) 8) ((lp (f_X1_readThrusters_b31 pr (nI i)) 1000 (z, 0)).bind _) = _ ∧ _
      rw [gd_n (by omega), r1]
      refine ⟨_, rfl, nI_add i 1, fun j hj k hk => ?_, fun j hj => ?_⟩
      · show r j k = _
        by_cases e : j = i
        · subst e; exact r2 k hk
        · rw [r3 j e]; exact h1 j (by omega) k hk
      · show _ = some (upd t (nI i).toNatClampNeg _ j)
        rw [nI_clamp (by omega)]
        by_cases e : j = i
        · subst e; rw [us]; exact p1
        · rw [uu e]; exact h2 j (by omega)
    · have : i = N := by omega
      subst this
      right
      rw [if_pos (Int32.le_refl _)]
      exact ⟨_, rfl, h1, h2⟩
  obtain ⟨⟨a, b⟩, e, h1, h2⟩ := L
  refine ⟨a, b, m, ?_, h1, h2, m2⟩
  unfold f_X1_readThrusters
  rw [m1, Option.bind_some, e]
  rfl
theorem det_c {A B C A' B' C' : Nat → Int64} (ha : ∀ k, k < 3 → A k = A' k) (hb : ∀ k, k < 3 → B k = B' k) (hc : ∀ k, k < 3 → C k = C' k) : det A B C = det A' B' C' := by
  unfold det
  rw [ha 0 (by decide), ha 1 (by decide), ha 2 (by decide), hb 0 (by decide), hb 1 (by decide), hb 2 (by decide), hc 0 (by decide), hc 1 (by decide), hc 2 (by decide)]
theorem eq_determinant {un : Nat → Nat → Int32} {tp : Nat → Int32} {ru : Int32} {pr : Nat → Int32} {pu : Nat → Int32} {ta : Nat → Int32} {se : Nat → Int32} {qu : Nat → Int32} {im : Nat → Int32} {su : Nat → Int64} {tc : Int32} {sc : Int32} {rc : Int32} {cn : Int32} {so : Int32} {bt : Nat → Int32} {le : Int32} {hs : Nat → SV} {ol : Int32} {ct : Int32} {row : Nat → Int32} {tot : Nat → Int64} {tab : Nat → Int64} {txt : Nat → Int32} {sav : Int32} {len : Int32} (p0 : Int32) (p1 : Int32) (p2 : Int32) (hI : Inv pr pu ta se qu im su tc sc rc cn so hs ol ct bt le row tot sav txt len) : ∃ q4 q5, f_X4_determinant pr ta tc un tp ru p0 p1 p2 = some q4 ∧ f_X5_determinant row tab p0 p1 p2 = some q5 ∧ q4.1 = q5.1 ∧ Inv pr pu ta se qu im su tc sc rc cn so hs ol ct bt le row tot sav txt len := by
  obtain ⟨N, rfl, e2, hC⟩ := hI.cur
  have hN := hC.2.2.1
  unfold f_X4_determinant f_X5_determinant
  rw [isThr_eq, isThr_eq, isThr_eq, e2]
  rcases isThr N hN p0 with h | ⟨h, i, hi, rfl⟩
  · rw [h]; exact ⟨_, _, rfl, rfl, rfl, hI⟩
  · rw [h]
    simp only [n10, ↓reduceIte, Option.bind_some]
    rcases isThr N hN p1 with h | ⟨h, j, hj, rfl⟩
    · rw [h]; exact ⟨_, _, rfl, rfl, rfl, hI⟩
    · rw [h]
      simp only [n10, ↓reduceIte, Option.bind_some]
      rcases isThr N hN p2 with h | ⟨h, k, hk, rfl⟩
      · rw [h]; exact ⟨_, _, rfl, rfl, rfl, hI⟩
      · rw [h]
        simp only [n10, ↓reduceIte, Option.bind_some]
        obtain ⟨un', tp', m, r, hU, -, -⟩ := readThr hC e2 un tp ru
        rw [r]
        simp only [Option.bind_some]
        rw [detOf_ok _ _ _ _ (by omega) (by omega) (by omega), Option.bind_some]
        have l0 := lays_ok hC hi 0 (by decide) tab
        have l1 := lays_ok hC hj 1 (by decide) (laid tab 0 (wP pr i))
        have l2 := lays_ok hC hk 2 (by decide) (laid (laid tab 0 (wP pr i)) 1 (wP pr j))
        refine ⟨_, ((det (wP pr i) (wP pr j) (wP pr k)).toInt32, laid (laid (laid tab 0 (wP pr i)) 1 (wP pr j)) 2 (wP pr k)), rfl, ?_, ?_, hI⟩

        · show (f_X5_lays row tab (nI 0) (nI i)).bind _ = _
          rw [l0, Option.bind_some]
          show (f_X5_lays row _ (nI 1) (nI j)).bind _ = _
          rw [l1, Option.bind_some]
          show (f_X5_lays row _ (nI 2) (nI k)).bind _ = _
          rw [l2, Option.bind_some, determined_ok (laid3 _ _ _ _)]
          rfl
        · show Int64.toInt32 _ = Int64.toInt32 _
          exact congrArg Int64.toInt32 (det_c (fun a ha => congrArg _ (hU i hi a ha)) (fun a ha => congrArg _ (hU j hj a ha)) (fun a ha => congrArg _ (hU k hk a ha)))


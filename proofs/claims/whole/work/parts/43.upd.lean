theorem g0 {α : Type} {X : Option α} : gd (ib 0 708) X = X := gd_t (by decide)
theorem g59 {α : Type} {X : Option α} : gd (ib 59 708) X = X := gd_t (by decide)
theorem g68 {α : Type} {X : Option α} : gd (ib 68 708) X = X := gd_t (by decide)
theorem c0 : (0 : Int32).toNatClampNeg = 0 := by decide
theorem c59 : (59 : Int32).toNatClampNeg = 59 := by decide
theorem c68 : (68 : Int32).toNatClampNeg = 68 := by decide
theorem us {f : Nat → Int32} {k : Nat} {x : Int32} : upd f k x k = x := pk_us
theorem uu {f : Nat → Int32} {k j : Nat} {x : Int32} (h : j ≠ k) : upd f k x j = f j := pk_un h
theorem BR.u_pr {pr pu ta se qu im : Nat → Int32} {su : Nat → Int64} {tc sc rc cn so : Int32} {row : Nat → Int32} {tot : Nat → Int64} (h : BR pr pu ta se qu im su tc sc rc cn so row tot 0) (j : Nat) (hj : j < 56) (x : Int32) : BR (upd pr j x) pu ta se qu im su tc sc rc cn so (upd row (1 + j) x) tot 0 := by
  obtain ⟨h1, h2, h3, h4, h5, h6, h7, h8, h9, h10, h11, h12⟩ := h
  refine ⟨fun k hk => ?_, fun k hk => (uu (by omega)).trans (h2 k hk), fun k hk => (uu (by omega)).trans (h3 k hk), fun k hk => (uu (by omega)).trans (h4 k hk), fun k hk => (uu (by omega)).trans (h5 k hk), fun k hk => (uu (by omega)).trans (h6 k hk), h7, (uu (by omega)).trans h8, (uu (by omega)).trans h9, (uu (by omega)).trans h10, (uu (by omega)).trans h11, (uu (by omega)).trans h12⟩
  by_cases c : k = j
  · subst c; rw [us, us]
  · rw [uu c, uu (by omega)]; exact h1 k hk
theorem BR.u_pu {pr pu ta se qu im : Nat → Int32} {su : Nat → Int64} {tc sc rc cn so : Int32} {row : Nat → Int32} {tot : Nat → Int64} (h : BR pr pu ta se qu im su tc sc rc cn so row tot 0) (j : Nat) (hj : j < 8) (x : Int32) : BR pr (upd pu j x) ta se qu im su tc sc rc cn so (upd row (108 + j) x) tot 0 := by
  obtain ⟨h1, h2, h3, h4, h5, h6, h7, h8, h9, h10, h11, h12⟩ := h
  refine ⟨fun k hk => (uu (by omega)).trans (h1 k hk), fun k hk => ?_, fun k hk => (uu (by omega)).trans (h3 k hk), fun k hk => (uu (by omega)).trans (h4 k hk), fun k hk => (uu (by omega)).trans (h5 k hk), fun k hk => (uu (by omega)).trans (h6 k hk), h7, (uu (by omega)).trans h8, (uu (by omega)).trans h9, (uu (by omega)).trans h10, (uu (by omega)).trans h11, (uu (by omega)).trans h12⟩
  by_cases c : k = j
  · subst c; rw [us, us]
  · rw [uu c, uu (by omega)]; exact h2 k hk
theorem BR.u_ta {pr pu ta se qu im : Nat → Int32} {su : Nat → Int64} {tc sc rc cn so : Int32} {row : Nat → Int32} {tot : Nat → Int64} (h : BR pr pu ta se qu im su tc sc rc cn so row tot 0) (j : Nat) (hj : j < 2) (x : Int32) : BR pr pu (upd ta j x) se qu im su tc sc rc cn so (upd row (57 + j) x) tot 0 := by
  obtain ⟨h1, h2, h3, h4, h5, h6, h7, h8, h9, h10, h11, h12⟩ := h
  refine ⟨fun k hk => (uu (by omega)).trans (h1 k hk), fun k hk => (uu (by omega)).trans (h2 k hk), fun k hk => ?_, fun k hk => (uu (by omega)).trans (h4 k hk), fun k hk => (uu (by omega)).trans (h5 k hk), fun k hk => (uu (by omega)).trans (h6 k hk), h7, (uu (by omega)).trans h8, (uu (by omega)).trans h9, (uu (by omega)).trans h10, (uu (by omega)).trans h11, (uu (by omega)).trans h12⟩
  by_cases c : k = j
  · subst c; rw [us, us]
  · rw [uu c, uu (by omega)]; exact h3 k hk
theorem BR.u_tc {pr pu ta se qu im : Nat → Int32} {su : Nat → Int64} {tc sc rc cn so : Int32} {row : Nat → Int32} {tot : Nat → Int64} (h : BR pr pu ta se qu im su tc sc rc cn so row tot 0) (x : Int32) : BR pr pu ta se qu im su x sc rc cn so (upd row 0 x) tot 0 := by
  obtain ⟨h1, h2, h3, h4, h5, h6, h7, h8, h9, h10, h11, h12⟩ := h
  exact ⟨fun k hk => (uu (by omega)).trans (h1 k hk), fun k hk => (uu (by omega)).trans (h2 k hk), fun k hk => (uu (by omega)).trans (h3 k hk), fun k hk => (uu (by omega)).trans (h4 k hk), fun k hk => (uu (by omega)).trans (h5 k hk), fun k hk => (uu (by omega)).trans (h6 k hk), h7, us, (uu (by omega)).trans h9, (uu (by omega)).trans h10, (uu (by omega)).trans h11, (uu (by omega)).trans h12⟩
/-- the sets and their number change as the row says -/
theorem BR.n_se {pr pu ta se qu im : Nat → Int32} {su : Nat → Int64} {tc sc rc cn so : Int32} {row : Nat → Int32} {tot : Nat → Int64} (h : BR pr pu ta se qu im su tc sc rc cn so row tot 0) {se' row' : Nat → Int32} {sc' : Int32} (h1' : ∀ k, k < 8 → row' (60 + k) = se' k) (h2' : row' 59 = sc') (h3' : ∀ k, k ≠ 59 → ¬ (60 ≤ k ∧ k < 68) → row' k = row k) : BR pr pu ta se' qu im su tc sc' rc cn so row' tot 0 := by
  obtain ⟨h1, h2, h3, h4, h5, h6, h7, h8, h9, h10, h11, h12⟩ := h
  exact ⟨fun k hk => (h3' _ (by omega) (by omega)).trans (h1 k hk), fun k hk => (h3' _ (by omega) (by omega)).trans (h2 k hk), fun k hk => (h3' _ (by omega) (by omega)).trans (h3 k hk), h1', fun k hk => (h3' _ (by omega) (by omega)).trans (h5 k hk), fun k hk => (h3' _ (by omega) (by omega)).trans (h6 k hk), h7, (h3' _ (by omega) (by omega)).trans h8, h2', (h3' _ (by omega) (by omega)).trans h10, (h3' _ (by omega) (by omega)).trans h11, (h3' _ (by omega) (by omega)).trans h12⟩
/-- the queue and its number change as the row says -/
theorem BR.n_qu {pr pu ta se qu im : Nat → Int32} {su : Nat → Int64} {tc sc rc cn so : Int32} {row : Nat → Int32} {tot : Nat → Int64} (h : BR pr pu ta se qu im su tc sc rc cn so row tot 0) {qu' row' : Nat → Int32} {rc' : Int32} (h1' : ∀ k, k < 30 → row' (69 + k) = qu' k) (h2' : row' 68 = rc') (h3' : ∀ k, k ≠ 68 → ¬ (69 ≤ k ∧ k < 99) → row' k = row k) : BR pr pu ta se qu' im su tc sc rc' cn so row' tot 0 := by
  obtain ⟨h1, h2, h3, h4, h5, h6, h7, h8, h9, h10, h11, h12⟩ := h
  exact ⟨fun k hk => (h3' _ (by omega) (by omega)).trans (h1 k hk), fun k hk => (h3' _ (by omega) (by omega)).trans (h2 k hk), fun k hk => (h3' _ (by omega) (by omega)).trans (h3 k hk), fun k hk => (h3' _ (by omega) (by omega)).trans (h4 k hk), h1', fun k hk => (h3' _ (by omega) (by omega)).trans (h6 k hk), h7, (h3' _ (by omega) (by omega)).trans h8, (h3' _ (by omega) (by omega)).trans h9, h2', (h3' _ (by omega) (by omega)).trans h11, (h3' _ (by omega) (by omega)).trans h12⟩
theorem ix69_3 (i : Nat) : (69 : Int32) + 3 * nI i = nI (69 + 3 * i) := by rw [show (3 : Int32) = nI 3 from rfl, pk_mul]; exact nI_add 69 (3 * i)
theorem i3 (i : Nat) : (3 : Int32) * nI i = nI (3 * i) := pk_mul 3 i
theorem i3r (i : Nat) : nI i * (3 : Int32) = nI (3 * i) := by rw [show (3 : Int32) = nI 3 from rfl, pk_mul, Nat.mul_comm]
theorem ad1 (a b : Nat) : nI a + nI b = nI (a + b) := nI_add a b
theorem ap1 (a : Nat) : nI a + (1 : Int32) = nI (a + 1) := nI_add a 1
theorem ap2 (a : Nat) : nI a + (2 : Int32) = nI (a + 2) := nI_add a 2
theorem ap3 (a : Nat) : nI a + (3 : Int32) = nI (a + 3) := nI_add a 3
theorem am3 (a : Nat) (h : 3 ≤ a) : nI a - (3 : Int32) = nI (a - 3) := pk_sub h
theorem am1 (a : Nat) (h : 1 ≤ a) : nI a - (1 : Int32) = nI (a - 1) := pk_sub h
theorem ins_ok {qu row : Nat → Int32} {Q : Nat} (hQ : Q < 10) (hq : ∀ k, k < 30 → row (69 + k) = qu k) (h68 : row 68 = nI Q) (a b c z : Int32) :
    ∃ q4 row', f_X2_insertRequest qu (nI Q) a b c z = some (q4, nI (Q + 1)) ∧ f_X5_puts row (if z = 0 then nI Q else 0) a b c = some row' ∧ (∀ k, k < 30 → row' (69 + k) = q4 k) ∧ row' 68 = nI (Q + 1) ∧ (∀ k, k ≠ 68 → ¬ (69 ≤ k ∧ k < 99) → row' k = row k) := by
  have hle : (nI Q * 3 + 3 : Int32) ≤ 30 := by
    rw [i3r, ap3, show (30 : Int32) = nI 30 from rfl]
    exact nI_le (by omega) (by omega)
  by_cases hz : z = 0
  · refine ⟨upd (upd (upd qu (3 * Q) a) (3 * Q + 1) b) (3 * Q + 2) c, upd (upd (upd (upd row (69 + 3 * Q) a) (69 + 3 * Q + 1) b) (69 + 3 * Q + 2) c) 68 (nI (Q + 1)), ?_, ?_, fun k hk => ?_, us, fun k h1 h2 => ?_⟩
    · unfold f_X2_insertRequest f_X2_insertRequest_j41 f_X2_insertRequest_j52
      rw [if_pos hle, if_pos hz, if_pos hz, i3r, gd_n (by omega), ap1, gd_n (by omega), ap2, gd_n (by omega), nI_clamp (by omega), nI_clamp (by omega), nI_clamp (by omega), ap1]
    · unfold f_X5_puts
      rw [if_pos hz]
      simp only [g68, c68, h68, i3, ap2]
      have e1 : lp (f_X5_puts_b13 (nI Q)) 1000 (row, nI (3 * Q + 2)) = some row := by
        have e0 : f_X5_puts_b13 (nI Q) (row, nI (3 * Q + 2)) = some (.inr row) := by
          unfold f_X5_puts_b13
          show (if nI (3 * Q + 2) ≤ 3 * nI Q + 2 then _ else _) = _
          rw [i3, ap2, if_pos (nI_le (Nat.le_refl _) (by omega))]
        show (f_X5_puts_b13 (nI Q) (row, nI (3 * Q + 2))).bind _ = _
        rw [e0]
        rfl
      rw [e1, Option.bind_some, show (69 : Int32) + nI (3 * Q) = nI (69 + 3 * Q) from nI_add 69 _, gd_n (by omega), ap1, gd_n (by omega), ap2, gd_n (by omega), nI_clamp (by omega), nI_clamp (by omega), nI_clamp (by omega), uu (by omega), uu (by omega), uu (by omega), h68, ap1]
    · rw [uu (by omega)]
      by_cases d2 : k = 3 * Q + 2
      · subst d2; rw [us, show 69 + (3 * Q + 2) = 69 + 3 * Q + 2 by omega, us]
      · rw [uu (by omega), uu d2]
        by_cases d1 : k = 3 * Q + 1
        · subst d1; rw [us, show 69 + (3 * Q + 1) = 69 + 3 * Q + 1 by omega, us]
        · rw [uu (by omega), uu d1]
          by_cases d0 : k = 3 * Q
          · subst d0; rw [us, us]
          · rw [uu (by omega), uu d0]; exact hq k hk
    · rw [uu h1, uu (by omega), uu (by omega), uu (by omega)]
  · have l1 := lp_run (b := f_X5_puts_b13 0) (fun i s => s.2 = nI (3 * Q + 2 - i) ∧ ∀ k, s.1 k = if 69 + 3 * Q + 2 - i < k ∧ k ≤ 69 + 3 * Q + 2 then row (k - 3) else row k) (3 * Q) (fun r => ∀ k, r k = if 71 < k ∧ k ≤ 69 + 3 * Q + 2 then row (k - 3) else row k) (by
      rintro i ⟨f, y⟩ hi ⟨hy, hJ⟩
      replace hy : y = nI (3 * Q + 2 - i) := hy
      replace hJ : ∀ k, f k = if 69 + 3 * Q + 2 - i < k ∧ k ≤ 69 + 3 * Q + 2 then row (k - 3) else row k := hJ
      subst hy
      unfold f_X5_puts_b13
      rcases Nat.lt_or_ge i (3 * Q) with hlt | hge
      · refine Or.inl ⟨hlt, ?_⟩
        have hn : ¬ nI (3 * Q + 2 - i) ≤ (3 * 0 + 2 : Int32) := fun h => by
          have := (nI_leI (a := 3 * Q + 2 - i) (b := 2) (by omega) (by omega)).mp h
          omega
        have ea : (69 : Int32) + nI (3 * Q + 2 - i) = nI (69 + (3 * Q + 2 - i)) := nI_add 69 _
        refine ⟨(upd f (69 + (3 * Q + 2 - i)) (f (69 + (3 * Q + 2 - i) - 3)), nI (3 * Q + 2 - (i + 1))), ?_, rfl, fun k => ?_⟩
        · show (if nI (3 * Q + 2 - i) ≤ 3 * 0 + 2 then _ else _) = _
          rw [if_neg hn]
          show (gd (ib ((69 + nI (3 * Q + 2 - i)) - 3) 708) (gd (ib (69 + nI (3 * Q + 2 - i)) 708) (some (Sum.inl (upd f ((69 : Int32) + nI (3 * Q + 2 - i)).toNatClampNeg (f ((69 + nI (3 * Q + 2 - i)) - 3 : Int32).toNatClampNeg), nI (3 * Q + 2 - i) + (-1)))))) = _
          rw [ea, am3 _ (by omega), gd_n (by omega), gd_n (by omega), nI_clamp (by omega), nI_clamp (by omega)]
          obtain ⟨w, hw⟩ : ∃ w, 3 * Q + 2 - i = w + 1 := ⟨3 * Q + 2 - i - 1, by omega⟩
          rw [show 3 * Q + 2 - (i + 1) = w by omega, hw, pk_m1]
        · show upd f _ _ k = _
          by_cases c : k = 69 + (3 * Q + 2 - i)
          · subst c
            rw [us, hJ, if_neg (by omega), if_pos (by omega)]
          · rw [uu c, hJ]
            by_cases d : 69 + 3 * Q + 2 - i < k ∧ k ≤ 69 + 3 * Q + 2
            · rw [if_pos d, if_pos (by omega)]
            · rw [if_neg d, if_neg (by omega)]
      · have hi : i = 3 * Q := by omega
        subst hi
        refine Or.inr ⟨f, ?_, fun k => ?_⟩
        · show (if nI (3 * Q + 2 - 3 * Q) ≤ 3 * 0 + 2 then _ else _) = _
          rw [show 3 * Q + 2 - 3 * Q = 2 by omega, if_pos (by decide)]
        · rw [hJ]
          by_cases d : 71 < k ∧ k ≤ 69 + 3 * Q + 2
          · rw [if_pos d, if_pos (by omega)]
          · rw [if_neg d, if_neg (by omega)]) 1000 0 (row, nI (3 * Q + 2)) (by omega) (by omega) ⟨rfl, fun k => by rw [if_neg (by omega)]⟩
    obtain ⟨r, e1, hr⟩ := l1
    refine ⟨upd (upd (upd (va_cpy qu qu 0 3 (3 * Q)) 0 a) 1 b) 2 c, upd (upd (upd (upd r 69 a) 70 b) 71 c) 68 (nI (Q + 1)), ?_, ?_, fun k hk => ?_, us, fun k h1 h2 => ?_⟩
    · unfold f_X2_insertRequest f_X2_insertRequest_j41 f_X2_insertRequest_j52
      have hcp : cpk 0 3 (nI (3 * Q)) 30 30 = true := by
        unfold cpk
        rw [decide_eq_true_eq, nI_clamp (by omega)]
        refine ⟨by decide, by decide, nI_pos (by omega), ?_, ?_⟩
        · rw [c0]; omega
        · rw [show (3 : Int32).toNatClampNeg = 3 by decide]; omega
      rw [if_pos hle, if_neg hz, i3r, gd_t hcp, if_neg hz, gd_t (by decide), gd_t (by decide), gd_t (by decide), nI_clamp (by omega), ap1]
      rfl
    · unfold f_X5_puts
      rw [if_neg hz]
      simp only [g68, c68, h68, i3, ap2]
      rw [e1, Option.bind_some, gd_t (by decide), gd_t (by decide), gd_t (by decide)]
      have a0 : ((69 : Int32) + 3 * 0).toNatClampNeg = 69 := by decide
      have a1 : ((69 : Int32) + 3 * 0 + 1).toNatClampNeg = 70 := by decide
      have a2 : ((69 : Int32) + 3 * 0 + 2).toNatClampNeg = 71 := by decide
      rw [a0, a1, a2, uu (by omega), uu (by omega), uu (by omega), hr, if_neg (by omega), h68, ap1]
    · rw [uu (by omega)]
      by_cases d2 : k = 2
      · subst d2; rfl
      · rw [uu (by omega), uu d2]
        by_cases d1 : k = 1
        · subst d1; rfl
        · rw [uu (by omega), uu d1]
          by_cases d0 : k = 0
          · subst d0; rfl
          · rw [uu (by omega), uu d0, hr]
            unfold va_cpy
            by_cases d : 3 ≤ k ∧ k < 3 + 3 * Q
            · rw [if_pos (by omega), if_pos d, ← hq _ (by omega)]
              exact congrArg row (by omega)
            · rw [if_neg (by omega), if_neg d]; exact hq k hk
    · rw [uu h1, uu (by omega), uu (by omega), uu (by omega), hr, if_neg (by omega)]
theorem rem_ok {qu row : Nat → Int32} {Q i : Nat} (hQ : Q ≤ 10) (hi : i < Q) (hq : ∀ k, k < 30 → row (69 + k) = qu k) (h68 : row 68 = nI Q) :
    ∃ q4 row', f_X2_removeRequest qu (nI Q) (nI i) = some (q4, nI (Q - 1)) ∧ f_X5_takes row (nI i) = some row' ∧ (∀ k, k < 30 → row' (69 + k) = q4 k) ∧ row' 68 = nI (Q - 1) ∧ (∀ k, k ≠ 68 → ¬ (69 ≤ k ∧ k < 99) → row' k = row k) := by
  have l1 := lp_run (b := f_X5_takes_b15) (fun j s => s.2 = nI (3 * i + j) ∧ ∀ k, s.1 k = if 69 + 3 * i ≤ k ∧ k < 69 + 3 * i + j then row (k + 3) else upd row 68 (nI (Q - 1)) k) (3 * (Q - 1) - 3 * i) (fun r => ∀ k, r k = if 69 + 3 * i ≤ k ∧ k < 69 + 3 * (Q - 1) then row (k + 3) else upd row 68 (nI (Q - 1)) k) (by
    rintro j ⟨f, y⟩ hj ⟨hy, hJ⟩
    replace hy : y = nI (3 * i + j) := hy
    replace hJ : ∀ k, f k = if 69 + 3 * i ≤ k ∧ k < 69 + 3 * i + j then row (k + 3) else upd row 68 (nI (Q - 1)) k := hJ
    subst hy
    have h6 : f 68 = nI (Q - 1) := by rw [hJ, if_neg (by omega), us]
    unfold f_X5_takes_b15
    rcases Nat.lt_or_ge j (3 * (Q - 1) - 3 * i) with hlt | hge
    · refine Or.inl ⟨hlt, (upd f (69 + (3 * i + j)) (f (69 + (3 * i + j) + 3)), nI (3 * i + (j + 1))), ?_, rfl, fun k => ?_⟩
      · have ea : (69 : Int32) + nI (3 * i + j) = nI (69 + (3 * i + j)) := nI_add 69 _
        show gd (ib 68 708) (if 3 * f (68 : Int32).toNatClampNeg ≤ nI (3 * i + j) then _ else gd (ib ((69 + nI (3 * i + j)) + 3) 708) (gd (ib (69 + nI (3 * i + j)) 708) (some (Sum.inl (upd f ((69 : Int32) + nI (3 * i + j)).toNatClampNeg (f ((69 + nI (3 * i + j)) + 3 : Int32).toNatClampNeg), nI (3 * i + j) + 1))))) = _
        rw [g68, c68, h6, i3, if_neg (nI_ge (by omega) (by omega)), ea, ap3, gd_n (by omega), gd_n (by omega), nI_clamp (by omega), nI_clamp (by omega), ap1]
        rfl
      · show upd f _ _ k = _
        by_cases c : k = 69 + (3 * i + j)
        · subst c
          rw [us, hJ, if_neg (by omega), if_pos (by omega), uu (by omega)]
        · rw [uu c, hJ]
          by_cases d : 69 + 3 * i ≤ k ∧ k < 69 + 3 * i + j
          · rw [if_pos d, if_pos (by omega)]
          · rw [if_neg d, if_neg (by omega)]
    · have hj : j = 3 * (Q - 1) - 3 * i := by omega
      subst hj
      refine Or.inr ⟨f, ?_, fun k => ?_⟩
      · show gd (ib 68 708) (if 3 * f (68 : Int32).toNatClampNeg ≤ nI (3 * i + (3 * (Q - 1) - 3 * i)) then _ else _) = _
        rw [g68, c68, h6, i3, if_pos (nI_le (by omega) (by omega))]
      · rw [hJ]
        by_cases d : 69 + 3 * i ≤ k ∧ k < 69 + 3 * (Q - 1)
        · rw [if_pos d, if_pos (by omega)]
        · rw [if_neg d, if_neg (by omega)]) 1000 0 (upd row 68 (nI (Q - 1)), nI (3 * i)) (by omega) (by omega) ⟨rfl, fun k => by rw [if_neg (by omega)]⟩
  obtain ⟨r, e1, hr⟩ := l1
  refine ⟨va_cpy qu qu (3 * (i + 1)) (3 * i) (3 * Q - 3 * (i + 1)), r, ?_, ?_, fun k hk => ?_, ?_, fun k h1 h2 => ?_⟩
  · unfold f_X2_removeRequest
    have e : (nI i + 1) * (3 : Int32) = nI (3 * (i + 1)) := by rw [ap1, i3r]
    have e2 : nI Q * (3 : Int32) - nI (3 * (i + 1)) = nI (3 * Q - 3 * (i + 1)) := by rw [i3r, pk_sub (by omega)]
    have hcp : cpk (nI (3 * (i + 1))) (nI (3 * i)) (nI (3 * Q - 3 * (i + 1))) 30 30 = true := by
      unfold cpk
      rw [decide_eq_true_eq, nI_clamp (by omega), nI_clamp (by omega), nI_clamp (by omega)]
      exact ⟨nI_pos (by omega), nI_pos (by omega), nI_pos (by omega), by omega, by omega⟩
    rw [e, e2, i3r, gd_t hcp, nI_clamp (by omega), nI_clamp (by omega), nI_clamp (by omega), am1 _ (by omega)]
  · unfold f_X5_takes
    rw [g68, g68, c68, h68, am1 _ (by omega), i3, e1]
    rfl
  · rw [hr]
    unfold va_cpy
    by_cases d : 3 * i ≤ k ∧ k < 3 * i + (3 * Q - 3 * (i + 1))
    · rw [if_pos (by omega), if_pos d, ← hq _ (by omega)]
      exact congrArg row (by omega)
    · rw [if_neg (by omega), if_neg d, uu (by omega)]; exact hq k hk
  · rw [hr, if_neg (by omega), us]
  · rw [hr, if_neg (by omega), uu h1]


theorem uL {f : Nat → Int64} {k : Nat} {x : Int64} : vp_updL f k x k = x := by unfold vp_updL; simp
theorem uLn {f : Nat → Int64} {k j : Nat} {x : Int64} (h : j ≠ k) : vp_updL f k x j = f j := by unfold vp_updL; simp [h]
/-- the determinant of three rows -/
def det (A B C : Nat → Int64) : Int64 := ((A 0 * (B 1 * C 2 - B 2 * C 1)) - (A 1 * (B 0 * C 2 - B 2 * C 0))) + (A 2 * (B 0 * C 1 - B 1 * C 0))
def laid (tab : Nat → Int64) (c : Nat) (M : Nat → Int64) : Nat → Int64 := vp_updL (vp_updL (vp_updL tab (0 + c) (M 0)) (3 + c) (M 1)) (6 + c) (M 2)
def wP (pr : Nat → Int32) (i : Nat) : Nat → Int64 := fun k => (unitP pr i k).toInt64
theorem lays_ok {pr ta row : Nat → Int32} {N i : Nat} (hC : Cur pr ta row N) (hi : i < N) (c : Nat) (hc : c < 3) (tab : Nat → Int64) : f_X5_lays row tab (nI c) (nI i) = some (laid tab c (wP pr i)) := by
  have e : ∀ z k, k < 3 → f_X5_lays_b2 row (nI c) (nI i) (z, nI k) = some (Sum.inl (vp_updL z (3 * k + c) (wP pr i k), nI (k + 1))) := by
    intro z k hk
    unfold f_X5_lays_b2
    show (if (3 : Int32) ≤ nI k then _ else _) = _
    rw [if_neg (show ¬ (3 : Int32) ≤ nI k from nI_ge (b := 3) hk (by omega)), (unit_of hC hi k hk).2, Option.bind_some]
    show gd (ib (3 * nI k + nI c) 9) _ = _
    have e1 : (3 : Int32) * nI k + nI c = nI (3 * k + c) := by rw [show (3 : Int32) = nI 3 from rfl, nI_mulL, nI_add]
    rw [e1, gd_n (by omega), nI_clamp (by omega)]
    show some (Sum.inl (vp_updL z (3 * k + c) (unitP pr i k).toInt64, nI k + 1)) = _
    rw [show nI k + 1 = nI (k + 1) from nI_add k 1]; rfl
  have e3 : ∀ z, f_X5_lays_b2 row (nI c) (nI i) (z, nI 3) = some (Sum.inr z) := fun z => rfl
  have s : ∀ n z k w, f_X5_lays_b2 row (nI c) (nI i) (z, nI k) = some (Sum.inl w) → lp (f_X5_lays_b2 row (nI c) (nI i)) (n + 1) (z, nI k) = lp (f_X5_lays_b2 row (nI c) (nI i)) n w := by
    intro n z k w h
    show (f_X5_lays_b2 row (nI c) (nI i) (z, nI k)).bind _ = _
    rw [h]; rfl
  have g : lp (f_X5_lays_b2 row (nI c) (nI i)) 1000 (tab, nI 0) = some (laid tab c (wP pr i)) := by
    rw [s 999 _ 0 _ (e _ 0 (by decide)), s 998 _ 1 _ (e _ 1 (by decide)), s 997 _ 2 _ (e _ 2 (by decide))]
    show (f_X5_lays_b2 row (nI c) (nI i) (_, nI 3)).bind _ = _
    rw [e3]; rfl
  unfold f_X5_lays
  show (lp _ 1000 (tab, nI 0)).bind _ = _
  rw [g]; rfl
theorem det_ring (A B C : Nat → Int64) : (0 + A 0 * (B 1 * C 2 - B 2 * C 1) + A 1 * (B 2 * C 0 - B 0 * C 2)) + A 2 * (B 0 * C 1 - B 1 * C 0) = det A B C := by
  unfold det; grind
theorem det_ring2 (A B C : Nat → Int64) : (0 + A 0 * (B 1 * C 2 - C 1 * B 2) + B 0 * (C 1 * A 2 - A 1 * C 2)) + C 0 * (A 1 * B 2 - B 1 * A 2) = det A B C := by
  unfold det; grind
def tabOf (tab A B C : Nat → Int64) : Prop := ∀ k, k < 3 → tab (3 * k) = A k ∧ tab (3 * k + 1) = B k ∧ tab (3 * k + 2) = C k
def dt (tab : Nat → Int64) (x : Int64) (a b c d e : Nat) : Int64 := x + tab a * (tab b * tab c - tab d * tab e)
theorem determined_raw (tab : Nat → Int64) : f_X5_determined tab = some ((0 + tab 0 * (tab 4 * tab 8 - tab 5 * tab 7) + tab 1 * (tab 5 * tab 6 - tab 3 * tab 8)) + tab 2 * (tab 3 * tab 7 - tab 4 * tab 6)) := by
  have s : ∀ n z w, f_X5_determined_b4 tab z = some (Sum.inl w) → lp (f_X5_determined_b4 tab) (n + 1) z = lp (f_X5_determined_b4 tab) n w := by
    intro n z w h
    show (f_X5_determined_b4 tab z).bind _ = _
    rw [h]; rfl
  have e0 : ∀ x, f_X5_determined_b4 tab (x, 0) = some (Sum.inl (x + tab 0 * (tab 4 * tab 8 - tab 5 * tab 7), 1)) := by
    intro x; show (if (3 : Int32) ≤ 0 then _ else _) = _
    rw [if_neg (by decide)]
    dsimp only
    rw [show (3 : Int32) + (((0 : Int32) + 1) - ((0 : Int32) + 1) / 3 * 3) = 4 from by decide, show (3 : Int32) + (((0 : Int32) + 2) - ((0 : Int32) + 2) / 3 * 3) = 5 from by decide, show (6 : Int32) + (((0 : Int32) + 2) - ((0 : Int32) + 2) / 3 * 3) = 8 from by decide, show (6 : Int32) + (((0 : Int32) + 1) - ((0 : Int32) + 1) / 3 * 3) = 7 from by decide]
    iterate 5 refine (gd_t (by rfl)).trans ?_
    show some (Sum.inl (dt tab x _ _ _ _ _, _)) = some (Sum.inl (dt tab x 0 4 8 5 7, 1))
    exact congrArg some (congrArg Sum.inl (Prod.ext (by congr 1) rfl))
  have e1 : ∀ x, f_X5_determined_b4 tab (x, 1) = some (Sum.inl (x + tab 1 * (tab 5 * tab 6 - tab 3 * tab 8), 2)) := by
    intro x; show (if (3 : Int32) ≤ 1 then _ else _) = _
    rw [if_neg (by decide)]
    dsimp only
    rw [show (3 : Int32) + (((1 : Int32) + 1) - ((1 : Int32) + 1) / 3 * 3) = 5 from by decide, show (3 : Int32) + (((1 : Int32) + 2) - ((1 : Int32) + 2) / 3 * 3) = 3 from by decide, show (6 : Int32) + (((1 : Int32) + 2) - ((1 : Int32) + 2) / 3 * 3) = 6 from by decide, show (6 : Int32) + (((1 : Int32) + 1) - ((1 : Int32) + 1) / 3 * 3) = 8 from by decide]
    iterate 5 refine (gd_t (by rfl)).trans ?_
    show some (Sum.inl (dt tab x _ _ _ _ _, _)) = some (Sum.inl (dt tab x 1 5 6 3 8, 2))
    exact congrArg some (congrArg Sum.inl (Prod.ext (by congr 1) rfl))
  have e2 : ∀ x, f_X5_determined_b4 tab (x, 2) = some (Sum.inl (x + tab 2 * (tab 3 * tab 7 - tab 4 * tab 6), 3)) := by
    intro x; show (if (3 : Int32) ≤ 2 then _ else _) = _
    rw [if_neg (by decide)]
    dsimp only
    rw [show (3 : Int32) + (((2 : Int32) + 1) - ((2 : Int32) + 1) / 3 * 3) = 3 from by decide, show (3 : Int32) + (((2 : Int32) + 2) - ((2 : Int32) + 2) / 3 * 3) = 4 from by decide, show (6 : Int32) + (((2 : Int32) + 2) - ((2 : Int32) + 2) / 3 * 3) = 7 from by decide, show (6 : Int32) + (((2 : Int32) + 1) - ((2 : Int32) + 1) / 3 * 3) = 6 from by decide]
    iterate 5 refine (gd_t (by rfl)).trans ?_
    show some (Sum.inl (dt tab x _ _ _ _ _, _)) = some (Sum.inl (dt tab x 2 3 7 4 6, 3))
    exact congrArg some (congrArg Sum.inl (Prod.ext (by congr 1) rfl))
  have e3 : ∀ n x, lp (f_X5_determined_b4 tab) (n + 1) (x, 3) = some x := fun n x => rfl
  unfold f_X5_determined
  rw [s 999 _ _ (e0 _), s 998 _ _ (e1 _), s 997 _ _ (e2 _), e3 996]; rfl
theorem determined_ok {tab A B C : Nat → Int64} (h : tabOf tab A B C) : f_X5_determined tab = some (det A B C) := by
  rw [determined_raw]
  obtain ⟨a0, b0, c0⟩ := h 0 (by decide)
  obtain ⟨a1, b1, c1⟩ := h 1 (by decide)
  obtain ⟨a2, b2, c2⟩ := h 2 (by decide)
  simp only [Nat.mul_zero, Nat.zero_add, Nat.mul_one, Nat.reduceMul, Nat.reduceAdd] at a0 b0 c0 a1 b1 c1 a2 b2 c2
  rw [a0, b0, c0, a1, b1, c1, a2, b2, c2]
  exact congrArg some (by unfold det; grind)
theorem laid3 (tab A B C : Nat → Int64) : tabOf (laid (laid (laid tab 0 A) 1 B) 2 C) A B C := by
  intro k hk
  unfold laid
  match k, hk with
  | 0, _ => exact ⟨rfl, rfl, rfl⟩
  | 1, _ => exact ⟨rfl, rfl, rfl⟩
  | 2, _ => exact ⟨rfl, rfl, rfl⟩
theorem detOf_ok (un : Nat → Nat → Int32) (a b c : Nat) (ha : a < 9) (hb : b < 9) (hc : c < 9) : f_X1_determinantOf un (nI a) (nI b) (nI c) = some (det (fun k => (un a k).toInt64) (fun k => (un b k).toInt64) (fun k => (un c k).toInt64)) := by
  unfold f_X1_determinantOf
  rw [gd_n ha, gd_n hb, gd_n hc, nI_clamp (by omega), nI_clamp (by omega), nI_clamp (by omega)]
  rfl


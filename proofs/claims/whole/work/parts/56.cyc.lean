theorem BR.u_im {pr pu ta se qu im : Nat → Int32} {su : Nat → Int64} {tc sc rc cn so : Int32} {row : Nat → Int32} {tot : Nat → Int64} (h : BR pr pu ta se qu im su tc sc rc cn so row tot 0) (j : Nat) (hj : j < 9) (x : Int32) : BR pr pu ta se qu (upd im j x) su tc sc rc cn so (upd row (99 + j) x) tot 0 := by
  obtain ⟨h1, h2, h3, h4, h5, h6, h7, h8, h9, h10, h11, h12⟩ := h
  refine ⟨fun k hk => (uu (by omega)).trans (h1 k hk), fun k hk => (uu (by omega)).trans (h2 k hk), fun k hk => (uu (by omega)).trans (h3 k hk), fun k hk => (uu (by omega)).trans (h4 k hk), fun k hk => (uu (by omega)).trans (h5 k hk), fun k hk => ?_, h7, (uu (by omega)).trans h8, (uu (by omega)).trans h9, (uu (by omega)).trans h10, (uu (by omega)).trans h11, (uu (by omega)).trans h12⟩
  by_cases c : k = j
  · subst c; rw [us, us]
  · rw [uu c, uu (by omega)]; exact h6 k hk
theorem BR.u_so {pr pu ta se qu im : Nat → Int32} {su : Nat → Int64} {tc sc rc cn so : Int32} {row : Nat → Int32} {tot : Nat → Int64} (h : BR pr pu ta se qu im su tc sc rc cn so row tot 0) (x : Int32) : BR pr pu ta se qu im su tc sc rc cn x (upd row 116 x) tot 0 := by
  obtain ⟨h1, h2, h3, h4, h5, h6, h7, h8, h9, h10, h11, h12⟩ := h
  exact ⟨fun k hk => (uu (by omega)).trans (h1 k hk), fun k hk => (uu (by omega)).trans (h2 k hk), fun k hk => (uu (by omega)).trans (h3 k hk), fun k hk => (uu (by omega)).trans (h4 k hk), fun k hk => (uu (by omega)).trans (h5 k hk), fun k hk => (uu (by omega)).trans (h6 k hk), h7, (uu (by omega)).trans h8, (uu (by omega)).trans h9, (uu (by omega)).trans h10, (uu (by omega)).trans h11, us⟩
theorem BR.u_cn {pr pu ta se qu im : Nat → Int32} {su : Nat → Int64} {tc sc rc cn so : Int32} {row : Nat → Int32} {tot : Nat → Int64} (h : BR pr pu ta se qu im su tc sc rc cn so row tot 0) (x : Int32) : BR pr pu ta se qu im su tc sc rc x so (upd row 117 x) tot 0 := by
  obtain ⟨h1, h2, h3, h4, h5, h6, h7, h8, h9, h10, h11, h12⟩ := h
  exact ⟨fun k hk => (uu (by omega)).trans (h1 k hk), fun k hk => (uu (by omega)).trans (h2 k hk), fun k hk => (uu (by omega)).trans (h3 k hk), fun k hk => (uu (by omega)).trans (h4 k hk), fun k hk => (uu (by omega)).trans (h5 k hk), fun k hk => (uu (by omega)).trans (h6 k hk), h7, (uu (by omega)).trans h8, (uu (by omega)).trans h9, (uu (by omega)).trans h10, us, (uu (by omega)).trans h12⟩
theorem BR.u_su {pr pu ta se qu im : Nat → Int32} {su : Nat → Int64} {tc sc rc cn so : Int32} {row : Nat → Int32} {tot : Nat → Int64} (h : BR pr pu ta se qu im su tc sc rc cn so row tot 0) (j : Nat) (x : Int64) : BR pr pu ta se qu im (vp_updL su j x) tc sc rc cn so row (vp_updL tot j x) 0 := by
  obtain ⟨h1, h2, h3, h4, h5, h6, h7, h8⟩ := h
  refine ⟨h1, h2, h3, h4, h5, h6, fun k hk => ?_, h8⟩
  have := h7 k hk
  rw [Nat.mul_zero, Nat.zero_add] at this ⊢
  by_cases c : k = j
  · subst c; rw [uL, uL]
  · rw [uLn c, uLn c]; exact this
/-- rows and totals beyond the newest are as they were -/
def Out (row row' : Nat → Int32) : Prop := ∀ k, 118 ≤ k → row' k = row k
def OutL (t t' : Nat → Int64) : Prop := ∀ k, 3 ≤ k → t' k = t k
theorem Out.u {row r : Nat → Int32} (h : Out row r) {j : Nat} (hj : j < 118) (x : Int32) : Out row (upd r j x) := fun k hk => (uu (by omega)).trans (h k hk)
theorem OutL.u {row r : Nat → Int64} (h : OutL row r) {j : Nat} (hj : j < 3) (x : Int64) : OutL row (vp_updL r j x) := fun k hk => (uLn (by omega)).trans (h k hk)
theorem BR.cur {pr pu ta se qu im : Nat → Int32} {su : Nat → Int64} {sc rc cn so : Int32} {row : Nat → Int32} {tot : Nat → Int64} {N : Nat} (h : BR pr pu ta se qu im su (nI N) sc rc cn so row tot 0) (hN : N ≤ 8) (hp : ∀ i, i < N → PV pr i) : Cur pr ta row N ∧ row 0 = nI N :=
  ⟨⟨fun k hk => b_pr h hk, fun k hk => b_ta h hk, hN, hp⟩, b_tc h⟩
theorem ran_of (m : Int32) (i : Nat) (hi : i < 8) : (((m >>> (nI i &&& 31)) &&& 1) = 1 ∧ m.toBitVec.getLsbD i = true ∧ f_X2_ranTicks m (nI i) = some 20) ∨ (¬ ((m >>> (nI i &&& 31)) &&& 1) = 1 ∧ f_X2_ranTicks m (nI i) = some 0) := by
  unfold f_X2_ranTicks
  rw [bit_at m i hi]
  by_cases c : m.toBitVec.getLsbD i = true
  · left; rw [if_pos c]; exact ⟨rfl, c, rfl⟩
  · right; rw [if_neg c]; exact ⟨by decide, rfl⟩
theorem g0r {α : Type} {X : Option α} : gd (ib 0 708) X = X := gd_t (by decide)
/-- the impulse that the running ones have given -/
theorem ran_sum {pr ta row : Nat → Int32} {N : Nat} (hC : Cur pr ta row N) (e2 : row 0 = nI N) (m : Int32) (v : Nat) (hv : v < 3) (x : Int32) :
    ∃ y, lp (f_X2_takeTarget_b35 pr (nI N) m (nI v)) 1000 (x, 0) = some y ∧ lp (f_X5_runs_b49 row m (nI v)) 1000 (x, 0) = some y := by
  have hN := hC.2.2.1
  have : ∃ r1 r2, lp (f_X2_takeTarget_b35 pr (nI N) m (nI v)) 1000 (x, 0) = some r1 ∧ lp (f_X5_runs_b49 row m (nI v)) 1000 (x, 0) = some r2 ∧ r1 = r2 := by
    refine lp_rel (fun i (s1 s2 : Int32 × Int32) => s1 = s2 ∧ s1.2 = nI i) N (· = ·) ?_ 1000 0 _ _ (by omega) (by omega) ⟨rfl, rfl⟩
    rintro i ⟨a, y⟩ s2 hi ⟨hs, hy⟩
    replace hy : y = nI i := hy
    subst hs hy
    unfold f_X2_takeTarget_b35 f_X5_runs_b49
    dsimp only
    rw [g0r, show row (0 : Int32).toNatClampNeg = nI N from e2]
    by_cases c : i < N
    · left
      refine ⟨c, ?_⟩
      rw [if_neg (nI_ge c (by omega)), if_neg (nI_ge c (by omega)), (unit_of hC c v hv).1, (unit_of hC c v hv).2]
      rcases ran_of m i (by omega) with ⟨h1, -, h2⟩ | ⟨h1, h2⟩
      · rw [if_pos h1, h2]; exact ⟨_, _, rfl, rfl, rfl, nI_add i 1⟩
      · rw [if_neg h1, h2]
        refine ⟨_, _, rfl, rfl, ?_, nI_add i 1⟩
        show (a - 0 * unitP pr i v, nI i + 1) = (a - 0, nI i + 1)
        rw [Int32.zero_mul]
    · right
      have : i = N := by omega
      subst this
      rw [if_pos (Int32.le_refl _), if_pos (Int32.le_refl _)]
      exact ⟨_, _, rfl, rfl, rfl⟩
  obtain ⟨r1, r2, h1, h2, h⟩ := this
  subst h
  exact ⟨r1, h1, h2⟩
theorem ix6 (v : Nat) : (6 : Int32) + nI v = nI (6 + v) ∧ (105 : Int32) + nI v = nI (105 + v) ∧ (0 : Int32) + nI v = nI (0 + v) ∧ (3 : Int32) + nI v = nI (3 + v) ∧ (2 : Int32) * 3 + nI v = nI (6 + v) ∧ (0 : Int32) * 3 + nI v = nI (0 + v) :=
  ⟨nI_add 6 v, nI_add 105 v, nI_add 0 v, nI_add 3 v, nI_add 6 v, nI_add 0 v⟩
theorem take_ok {pr pu ta se qu im : Nat → Int32} {su : Nat → Int64} {sc cn so : Int32} {row : Nat → Int32} {tot : Nat → Int64} {N Q : Nat} (hB : BR pr pu ta se qu im su (nI N) sc (nI Q) cn so row tot 0) (hN : N ≤ 8) (hQ : Q ≤ 10) (hp : ∀ i, i < N → PV pr i) (m : Int32) :
    ∃ im' row', lp (f_X2_takeTarget_b2 pr (nI N) qu (nI Q) m) 1000 (im, 0) = some im' ∧ lp (f_X5_runs_b7 m) 1000 (row, 0) = some row' ∧ BR pr pu ta se qu im' su (nI N) sc (nI Q) cn so row' tot 0 ∧ Out row row' := by
  refine lp_rel (fun v (s1 s2 : (Nat → Int32) × Int32) => s1.2 = nI v ∧ s2.2 = nI v ∧ BR pr pu ta se qu s1.1 su (nI N) sc (nI Q) cn so s2.1 tot 0 ∧ Out row s2.1) 3 (fun a b => BR pr pu ta se qu a su (nI N) sc (nI Q) cn so b tot 0 ∧ Out row b) ?_ 1000 0 _ _ (by omega) (by omega) ⟨rfl, rfl, hB, fun _ _ => rfl⟩
  rintro v ⟨im, y1⟩ ⟨rw1, y2⟩ hv ⟨g1, g2, hJ, hO⟩
  replace g1 : y1 = nI v := g1
  replace g2 : y2 = nI v := g2
  replace hJ : BR pr pu ta se qu im su (nI N) sc (nI Q) cn so rw1 tot 0 := hJ
  replace hO : Out row rw1 := hO
  subst g1 g2
  unfold f_X2_takeTarget_b2 f_X5_runs_b7
  dsimp only
  by_cases c : v < 3
  · left
    refine ⟨c, ?_⟩
    obtain ⟨hC, e2⟩ := hJ.cur hN hp
    have n3 : ¬ (3 : Int32) ≤ nI v := nI_ge (b := 3) c (by omega)
    rw [if_neg n3, if_neg n3, ix99, ix69, gd_n (by omega), gd_t (show ib 68 708 = true from by decide), gd_n (by omega), nI_clamp (by omega), nI_clamp (by omega)]
    simp only [show rw1 (68 : Int32).toNatClampNeg = nI Q from b_rc hJ]
    rw [nI_clamp (by omega), b_im hJ (by omega), b_qu hJ (by omega)]
    have hi : f_X2_impulsePart im 0 (nI v) = some (im v) := by
      unfold f_X2_impulsePart
      rw [(ix6 v).2.2.2.2.2, gd_n (by omega), nI_clamp (by omega), Nat.zero_add]
    rw [hi, Option.bind_some, gd_n (by omega)]
    have fin : ∀ a b, ∃ s1 s2, f_X2_takeTarget_j30 pr im (nI N) m (nI v) a b = some (Sum.inl s1) ∧ f_X5_runs_j44 rw1 m (nI v) a b = some (Sum.inl s2) ∧ s1.2 = nI (v + 1) ∧ s2.2 = nI (v + 1) ∧ BR pr pu ta se qu s1.1 su (nI N) sc (nI Q) cn so s2.1 tot 0 ∧ Out row s2.1 := by
      intro a b
      obtain ⟨y, l1, l2⟩ := ran_sum hC e2 m v c (b + a)
      unfold f_X2_takeTarget_j30 f_X5_runs_j44
      rw [l1, l2, Option.bind_some, Option.bind_some, (ix6 v).1, (ix6 v).2.1, gd_n (by omega), gd_n (by omega), nI_clamp (by omega), nI_clamp (by omega)]
      refine ⟨_, _, rfl, rfl, nI_add v 1, nI_add v 1, ?_, hO.u (by omega) y⟩
      have := hJ.u_im (6 + v) (by omega) y
      rw [show 99 + (6 + v) = 105 + v from by omega] at this
      exact this
    by_cases cq : nI Q ≤ 0
    · rw [if_pos cq, if_pos cq]; exact fin _ _
    · rw [if_neg cq, if_neg cq]; exact fin _ _
  · right
    have : v = 3 := by omega
    subst this
    exact ⟨_, _, rfl, rfl, hJ, hO⟩
/-- whose pulses are above nothing -/
def firedM (pu : Nat → Int32) : Nat → Int32
  | 0 => 0
  | i + 1 => firedM pu i ||| (if pu i ≤ 0 then (0 : Int32) else (1 : Int32) <<< (nI i &&& 31))
theorem firedM_c {pu pu' : Nat → Int32} : ∀ n, (∀ i, i < n → pu i = pu' i) → firedM pu n = firedM pu' n
  | 0, _ => rfl
  | n + 1, h => by
    show firedM pu n ||| _ = firedM pu' n ||| _
    rw [firedM_c n (fun i hi => h i (by omega)), h n (by omega)]
/-- the sound ones -/
def soundM (pr : Nat → Int32) : Nat → Int32
  | 0 => 0
  | i + 1 => soundM pr i ||| (if pr (7 * i + 6) = 0 then (1 : Int32) <<< (nI i &&& 31) else (0 : Int32))
theorem soundM_top (pr : Nat → Int32) : ∀ n, n ≤ 8 → ∀ j, n ≤ j → j < 8 → (soundM pr n).toBitVec.getLsbD j = false
  | 0, _, j, _, _ => bit_0 j
  | n + 1, hn, j, h1, h2 => by
    show (soundM pr n ||| _).toBitVec.getLsbD j = false
    rw [bit_or, soundM_top pr n (by omega) j (by omega) h2]
    split
    · rw [bit_1 n j (by omega) h2]; simp; omega
    · rw [bit_0]; rfl
theorem soundM_val (pr : Nat → Int32) (N : Nat) (hN : N ≤ 8) : ∀ i, N ≤ i → i < 8 → ¬ ((soundM pr N >>> (nI i &&& 31)) &&& 1) = 1 := by
  intro i h1 h2
  rw [bit_at _ i h2, soundM_top pr N hN i h1 h2]
  decide
theorem fired_ok {pr ta row pu : Nat → Int32} {N : Nat} (hC : Cur pr ta row N) (e2 : row 0 = nI N) (hp : ∀ i, i < N → row (108 + i) = pu i) : f_X5_firedSet row = some (firedM pu N) := by
  have hN := hC.2.2.1
  obtain ⟨r, l, rfl⟩ := lp_run (b := f_X5_firedSet_b4 row) (fun i s => s = (firedM pu i, nI i)) N (fun r => r = firedM pu N) (by
    rintro i s hi hs
    subst hs
    unfold f_X5_firedSet_b4
    dsimp only
    rw [g0r, show row (0 : Int32).toNatClampNeg = nI N from e2]
    by_cases c : i < N
    · left
      refine ⟨c, ?_⟩
      rw [if_neg (nI_ge c (by omega)), ix108, gd_n (by omega), nI_clamp (by omega), hp i c]
      by_cases d : pu i ≤ 0
      · rw [if_pos d]
        refine ⟨_, rfl, ?_⟩
        show (firedM pu i ||| 0, nI i + 1) = (firedM pu i ||| (if pu i ≤ 0 then (0 : Int32) else _), nI (i + 1))
        rw [if_pos d, show nI i + 1 = nI (i + 1) from nI_add i 1]
      · rw [if_neg d]
        refine ⟨_, rfl, ?_⟩
        show (firedM pu i ||| (1 <<< (nI i &&& 31)), nI i + 1) = (firedM pu i ||| (if pu i ≤ 0 then (0 : Int32) else _), nI (i + 1))
        rw [if_neg d, show nI i + 1 = nI (i + 1) from nI_add i 1]
    · right
      have : i = N := by omega
      subst this
      rw [if_pos (Int32.le_refl _)]
      exact ⟨_, rfl, rfl⟩) 1000 0 (0, 0) (by omega) (by omega) rfl
  unfold f_X5_firedSet
  rw [l]; rfl


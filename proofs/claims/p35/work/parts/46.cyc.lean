/-! a cycle -/
def Tk (ta : Nat → Int32) : Prop := ∀ k, k < 2 → 0 ≤ (ta k).toInt ∧ (ta k).toInt ≤ 100000
def OKs (N S Q C : Nat) (pr pu ta se qu im : Nat → Int32) (su : Nat → Int64) (so : Int32) : Prop :=
  Cu pr N ∧ S ≤ 8 ∧ Q ≤ 10 ∧ C < 2 ^ 30 ∧ Tk ta ∧ Zs (pr, pu, ta, se, qu, im, su, nI N, nI S, nI Q, nI C, so)
theorem bs_add {x y : Int32} {X Y : Nat} (h1 : bs x X) (h2 : bs y Y) (h : X + Y ≤ 2 ^ 30) : bs (x + y) (X + Y) := by
  unfold bs at *
  rw [Int32.toInt_add, bmod32 _ (by omega)]; omega
theorem unit_bs {pr : Nat → Int32} {i : Nat} (h : PV pr i) (k : Nat) : bs (unitP pr i k) 200 := by
  obtain ⟨h0, h1, ⟨d, hd, e2⟩, ⟨f, f1, f2, e3⟩, -⟩ := h
  have hb := bs_d d hd
  have hf : bs (pr (7 * i + 3)) 10 := by rw [e3]; exact Nat.le_trans (bs_n f (by omega)) f2
  have hx : bs (pr (7 * i)) 10 := by unfold bs; omega
  have hy : bs (pr (7 * i + 1)) 10 := by unfold bs; omega
  unfold unitP
  rw [e2, nI_clamp (by omega)]
  show bs (if k = 0 then _ else if k = 1 then _ else _) 200
  split
  · exact Nat.le_trans (bs_mul hf hb.1 (by decide)) (by decide)
  · split
    · exact Nat.le_trans (bs_mul hf hb.2 (by decide)) (by decide)
    · exact bs_mul hf (bs_sub (bs_mul hx hb.2 (by decide)) (bs_mul hy hb.1 (by decide)) (by decide)) (by decide)
theorem sm_bd {f : Nat → Int32} {X : Nat} : ∀ n, n ≤ 8 → X ≤ 4000 → (∀ i, i < n → bs (f i) X) → bs (sm f n) (n * X) := by
  intro n
  induction n with
  | zero => intro _ _ _; show (0 : Int32).toInt.natAbs ≤ 0 * X; rw [show (0 : Int32).toInt.natAbs = 0 from by decide]; omega
  | succ n ih =>
    intro hn hX h
    have h1 := ih (by omega) hX (fun i hi => h i (by omega))
    have hb : n * X ≤ 7 * 4000 := Nat.mul_le_mul (by omega) hX
    have h2 := bs_add h1 (h n (by omega)) (by omega)
    show bs (sm f n + f n) ((n + 1) * X)
    rw [Nat.succ_mul]; exact h2
/-- the pulses of a state -/
def Pul (pr ta : Nat → Int32) (N : Nat) (pu : Nat → Int32) : Prop := ∀ i, i < N → ∃ w, pu i = nI w ∧ w ≤ 20 ∧ (w ≠ 0 → usb pr ta i = 1)
theorem used_of {pr ta pu : Nat → Int32} {N i : Nat} (hC : Cu pr N) (hi : i < N) (hp : Pul pr ta N pu) : ∃ u f, pu i + ranT (runM pr ta N) i = nI u ∧ u ≤ 20 ∧ pr (7 * i + 3) = nI f ∧ 1 ≤ f ∧ f ≤ 10 := by
  have hN := hC.1
  obtain ⟨w, e, hw, hu⟩ := hp i hi
  obtain ⟨-, -, -, ⟨f, f1, f2, e3⟩, -⟩ := hC.2 i hi
  rw [e, ranT_eq hN hi]
  by_cases c : rng pr ta i = 1
  · rw [if_pos c]
    have hw0 : w = 0 := by
      refine Classical.byContradiction fun h => ?_
      have h1 := usb_st (hu h)
      rw [rng_st c] at h1
      exact absurd h1 (by decide)
    subst hw0
    exact ⟨20, f, by decide, by omega, e3, f1, f2⟩
  · rw [if_neg c]
    exact ⟨w, f, by rw [show (0 : Int32) = nI 0 from rfl, nI_add, Nat.add_zero], hw, e3, f1, f2⟩
def tot2 (ta : Nat → Int32) : Int := (ta 0).toInt + (ta 1).toInt
def stN (pr : Nat → Int32) : Nat → Nat
  | 0 => 0
  | n + 1 => stN pr n + (pr (7 * n + 3)).toNatClampNeg
theorem stN_bd {pr : Nat → Int32} {N : Nat} (hC : Cu pr N) : ∀ n, n ≤ N → stN pr n ≤ 10 * n := by
  intro n
  induction n with
  | zero => intro _; exact Nat.le_refl _
  | succ n ih =>
    intro hn
    obtain ⟨-, -, -, ⟨f, f1, f2, e3⟩, -⟩ := hC.2 n (by omega)
    have := ih (by omega)
    show stN pr n + _ ≤ _
    rw [e3, nI_clamp (by omega)]
    omega
theorem stN_sm {pr : Nat → Int32} {N : Nat} (hC : Cu pr N) : ∀ n, n ≤ N → sm (fun i => pr (7 * i + 3)) n = nI (stN pr n) := by
  intro n
  induction n with
  | zero => intro _; rfl
  | succ n ih =>
    intro hn
    obtain ⟨-, -, -, ⟨f, f1, f2, e3⟩, -⟩ := hC.2 n (by omega)
    show sm _ n + pr (7 * n + 3) = nI (stN pr n + _)
    rw [ih (by omega), e3, nI_add, nI_clamp (by omega)]
theorem BU_bd {pr ta pu : Nat → Int32} {N : Nat} (hC : Cu pr N) (hT : Tk ta) (hp : Pul pr ta N pu) : ∀ n, n ≤ N → Tk (BU pr pu (runM pr ta N) ta n) ∧ tot2 (BU pr pu (runM pr ta N) ta n) ≤ tot2 ta ∧ tot2 ta - 20 * (stN pr n : Int) ≤ tot2 (BU pr pu (runM pr ta N) ta n) := by
  intro n
  induction n with
  | zero => intro _; exact ⟨hT, Int.le_refl _, by show tot2 ta - 20 * ((0 : Nat) : Int) ≤ tot2 ta; omega⟩
  | succ n ih =>
    intro hn
    obtain ⟨a1, a2, a3⟩ := ih (by omega)
    obtain ⟨u, f, e1, hu, e3, f1, f2⟩ := used_of hC (show n < N by omega) hp
    have ht := (tnk_of hC (show n < N by omega)).1
    generalize hW : BU pr pu (runM pr ta N) ta n = W at a1 a2 a3
    have hs : stN pr (n + 1) = stN pr n + f := by
      show stN pr n + _ = _
      rw [e3, nI_clamp (by omega)]
    have huf : u * f ≤ 20 * f := Nat.mul_le_mul_right f hu
    have hx : mx0 (W (tnk pr n) - (pu n + ranT (runM pr ta N) n) * pr (7 * n + 3)) = mx0 (W (tnk pr n) - nI (u * f)) := by rw [e1, e3, pk_mul]
    have hm : (mx0 (W (tnk pr n) - nI (u * f))).toInt = max 0 ((W (tnk pr n)).toInt - (u * f : Nat)) := by
      have hb := a1 _ ht
      have e : (W (tnk pr n) - nI (u * f)).toInt = (W (tnk pr n)).toInt - (u * f : Nat) := by
        rw [Int32.toInt_sub, nI_toInt (by omega), bmod32 _ (by omega)]
      unfold mx0
      by_cases c : 0 < W (tnk pr n) - nI (u * f)
      · rw [if_pos c, e]
        rw [Int32.lt_iff_toInt_lt, e, show (0 : Int32).toInt = 0 from by decide] at c
        omega
      · rw [if_neg c]
        rw [Int32.lt_iff_toInt_lt, e, show (0 : Int32).toInt = 0 from by decide] at c
        rw [show (0 : Int32).toInt = 0 from by decide]
        omega
    have hn' : BU pr pu (runM pr ta N) ta (n + 1) = upd W (tnk pr n) (mx0 (W (tnk pr n) - nI (u * f))) := by
      show upd (BU pr pu (runM pr ta N) ta n) _ (mx0 (BU pr pu (runM pr ta N) ta n (tnk pr n) - _)) = _
      rw [hW, hx]
    rw [hn', hs]
    generalize hy : mx0 (W (tnk pr n) - nI (u * f)) = y at hm
    clear hn' hx hy hW
    have h0 := a1 0 (by omega)
    have h1 := a1 1 (by omega)
    generalize tnk pr n = t at ht hm
    unfold tot2 at *
    match t, ht with
    | 0, _ =>
      refine ⟨fun k hk => ?_, ?_, ?_⟩
      · by_cases c : k = 0
        · subst c; rw [us]; omega
        · rw [uu c]; exact a1 k hk
      · rw [us, uu (by decide)]; omega
      · rw [us, uu (by decide)]; push_cast; omega
    | 1, _ =>
      refine ⟨fun k hk => ?_, ?_, ?_⟩
      · by_cases c : k = 1
        · subst c; rw [us]; omega
        · rw [uu c]; exact a1 k hk
      · rw [us, uu (by decide)]; omega
      · rw [us, uu (by decide)]; push_cast; omega
/-- what a cycle leaves -/
def CycP (pr ta qu im : Nat → Int32) (su : Nat → Int64) (N Q : Nat) (r : Int32) (pu' ta' im' : Nat → Int32) (su' : Nat → Int64) : Prop :=
  ((r = -2000000000 ∧ fmP pu' N = 0) ∨ (r ≠ -2000000000 ∧ r = fmP pu' N)) ∧
  (∀ v, v < 3 → im' v = hold (im' (6 + v) - chos pr pu' v N) ∧ im' (3 + v) = chos pr pu' v N + forc pr (runM pr ta N) v N ∧ im' (6 + v) = due im qu Q v - forc pr (runM pr ta N) v N ∧ bs (im' (3 + v)) 64000) ∧
  su' 1 = su 1 + (im' 4).toInt64 ∧ tot2 ta' ≤ tot2 ta ∧ tot2 ta - 20 * (stN pr N : Int) ≤ tot2 ta'
theorem run_cyc {N S Q C : Nat} {pr pu ta se qu im : Nat → Int32} {su : Nat → Int64} {so : Int32} (hK : OKs N S Q C pr pu ta se qu im su so) :
    ∃ r pu' ta' qu' im' su' so', CycP pr ta qu im su N Q r pu' ta' im' su' ∧ (C + 1 < 2 ^ 30 → OKs N S (Q - 1) (C + 1) pr pu' ta' se qu' im' su' so') ∧
      ∀ un tp sh de co ma ru fo, zL 8 sh → ∃ un' tp' sh' de' co' ma' ru' fo', zL 8 sh' ∧ f_X4_runCycle pr se (nI N) (nI S) un tp sh de co ma ru fo pu ta qu im su (nI Q) (nI C) so = some (r, un', tp', sh', de', co', ma', ru', fo', pu', ta', qu', im', su', nI (Q - 1), nI (C + 1), so') := by
  obtain ⟨hC, hS, hQ, hCn, hT, hZ⟩ := hK
  have hN := hC.1
  obtain ⟨z1, z2, z3, z4, z5, z6, z7⟩ := id hZ
  obtain ⟨qu', t1, t2⟩ := take_ok (im := im) hC hQ z5 (runM pr ta N)
  obtain ⟨c, hc, hf⟩ := find_of (ta := ta) (se := se) hC hS (IMt pr im qu Q N (runM pr ta N) 3 6) (IMt pr im qu Q N (runM pr ta N) 3 7) (IMt pr im qu Q N (runM pr ta N) 3 8)
  obtain ⟨g1, g2, g3, g4, g5⟩ := hc.z
  have hSh : Shr pr ta N c.1 c.2.1 := ⟨g2, g5⟩
  have hPul : Pul pr ta N (PuN c.1 c.2.1 pr pu N) := fun i hi => by
    obtain ⟨-, w, m, e, hw, -, -, -, hu⟩ := pul_of hC hi hSh
    exact ⟨w, by rw [PuN_at N i hi]; exact e, hw, hu⟩
  obtain ⟨b1, b2, b3⟩ := BU_bd hC hT hPul N (Nat.le_refl _)
  have hfm : fmP (PuN c.1 c.2.1 pr pu N) N = fmP (pul c.1 c.2.1 pr) N := fmP_c N (fun i hi => PuN_at N i hi)
  refine ⟨if c.2.2.2.2 = 0 then -2000000000 else fmP (pul c.1 c.2.1 pr) N, PuN c.1 c.2.1 pr pu N, BU pr (PuN c.1 c.2.1 pr pu N) (runM pr ta N) ta N, qu', (GV pr (PuN c.1 c.2.1 pr pu N) (runM pr ta N) N (IMt pr im qu Q N (runM pr ta N) 3) su 3).1, (GV pr (PuN c.1 c.2.1 pr pu N) (runM pr ta N) N (IMt pr im qu Q N (runM pr ta N) 3) su 3).2, soM pr N, ⟨?_, fun v hv => ?_, ?_, b2, b3⟩, fun hC1 => ?_, fun un tp sh de co ma ru fo hs => ?_⟩
  · by_cases c0 : c.2.2.2.2 = 0
    · rw [if_pos c0, hfm]
      refine Or.inl ⟨rfl, fmP_0 N (fun i hi => ?_)⟩
      obtain ⟨-, w, m, e, hw, -, -, hu, -⟩ := pul_of hC hi hSh
      have h0 := g4 c0
      rw [e]
      have : w = 0 := by
        refine Classical.byContradiction fun h => ?_
        have := (hu h).2
        rw [h0] at this
        exact absurd this (show ¬ 0 < (0 : Int64).toInt from by decide)
      rw [this]; rfl
    · rw [if_neg c0, hfm]
      exact Or.inr ⟨fmP_ne hN, rfl⟩
  · obtain ⟨q1, q2, q3⟩ := GV_at pr (PuN c.1 c.2.1 pr pu N) (runM pr ta N) N (IMt pr im qu Q N (runM pr ta N) 3) su v hv
    have q4 := IMt_at pr im qu Q N (runM pr ta N) v hv
    refine ⟨by rw [q1, q3], q2, by rw [q3, q4], ?_⟩
    rw [q2]
    have k1 : bs (chos pr (PuN c.1 c.2.1 pr pu N) v N) (N * 4000) := sm_bd N hN (Nat.le_refl _) (fun i hi => by
      obtain ⟨w, e, hw, -⟩ := hPul i hi
      show bs (PuN c.1 c.2.1 pr pu N i * unitP pr i v) 4000
      rw [e]
      exact bs_mul (X := 20) (Y := 200) (Nat.le_trans (bs_n w (by omega)) hw) (unit_bs (hC.2 i hi) v) (by decide))
    have k2 : bs (forc pr (runM pr ta N) v N) (N * 4000) := sm_bd N hN (Nat.le_refl _) (fun i hi => by
      show bs (ranT (runM pr ta N) i * unitP pr i v) 4000
      refine bs_mul (X := 20) (Y := 200) ?_ (unit_bs (hC.2 i hi) v) (by decide)
      rw [ranT_eq hN hi]
      split
      · show (20 : Int32).toInt.natAbs ≤ 20; decide
      · show (0 : Int32).toInt.natAbs ≤ 20; decide)
    exact Nat.le_trans (bs_add k1 k2 (by omega)) (by omega)
  · rw [GV_su, (GV_at pr (PuN c.1 c.2.1 pr pu N) (runM pr ta N) N (IMt pr im qu Q N (runM pr ta N) 3) su 1 (by decide)).2.1]
  · exact ⟨hC, hS, by omega, hC1, b1, z1, PuN_z z2 N hN, BU_z hC z3 N (Nat.le_refl _), z4, t2, (GV_z (IMt_z z6 3 (by decide)) z7 3 (by decide)).1, (GV_z (IMt_z z6 3 (by decide)) z7 3 (by decide)).2⟩
  · obtain ⟨un', tp', ru', e⟩ := hf un tp sh de co ma ru fo hs
    refine ⟨un', tp', c.1, c.2.1, c.2.2.1, c.2.2.2.1, ru', c.2.2.2.2, g1, ?_⟩
    unfold f_X4_runCycle
    rw [run_of hC, Option.bind_some, t1, Option.bind_some]
    dsimp only
    rw [show (2 : Int32) = nI 2 from rfl, show (0 : Int32) = nI 0 from rfl, show (1 : Int32) = nI 1 from rfl, part_of _ 2 0 (by decide), Option.bind_some, part_of _ 2 1 (by decide), Option.bind_some, part_of _ 2 2 (by decide), Option.bind_some]
    show (f_X1_find pr ta se (nI N) (nI S) un tp sh de co ma ru fo (IMt pr im qu Q N (runM pr ta N) 3 6) (IMt pr im qu Q N (runM pr ta N) 3 7) (IMt pr im qu Q N (runM pr ta N) 3 8)).bind _ = _
    rw [e, Option.bind_some]
    dsimp only
    rw [sets_ok hC hSh, Option.bind_some]
    dsimp only
    rw [give_ok hC, Option.bind_some, burn_ok hC, Option.bind_some]
    dsimp only
    rw [show nI C + nI 1 = nI (C + 1) from nI_add C 1, show nI 0 = (0 : Int32) from rfl]
    by_cases c0 : c.2.2.2.2 = 0
    · rw [if_pos c0, if_pos c0]
    · rw [if_neg c0, if_neg c0]

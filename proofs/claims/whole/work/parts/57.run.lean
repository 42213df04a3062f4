theorem upd_comm {f : Nat → Int32} {j k : Nat} {x y : Int32} (h : j ≠ k) : upd (upd f j x) k y = upd (upd f k y) j x := by
  funext i
  by_cases a : i = k
  · subst a; rw [us, uu (Ne.symm h), us]
  · rw [uu a]
    by_cases b : i = j
    · subst b; rw [us, us]
    · rw [uu b, uu b, uu a]
theorem g116 {α : Type} {X : Option α} : gd (ib 116 708) X = X := gd_t (by decide)
theorem sets_ok {pr pu ta se qu im : Nat → Int32} {su : Nat → Int64} {sc rc cn so : Int32} {row : Nat → Int32} {tot : Nat → Int64} {N : Nat} (hB : BR pr pu ta se qu im su (nI N) sc rc cn so row tot 0) (hN : N ≤ 8) (hp : ∀ i, i < N → PV pr i)
    {sh bes : Nat → Int64} {de : Int64} (hs : ∀ k, k < 8 → sh k = bes k) (h1 : 0 < de.toInt) (h2 : de.toInt ≤ 120000) (hn : ∀ k, k < 8 → ¬ lg_cmp (sh k) 0 < 0) {fo : Int32} (h0 : fo = 0 → ∀ k, k < 8 → sh k = 0) :
    ∃ r1 r2, lp (f_X2_setPulses_b9 sh de pr (nI N)) 1000 (pu, 0, 0, 0) = some r1 ∧ lp (f_X5_runs_b164 bes de fo) 1000 (upd row 116 0, 0) = some r2 ∧ BR pr r1.1 ta se qu im su (nI N) sc rc cn r1.2.1 r2 tot 0 ∧ Out row r2 ∧ r1.2.1 = soundM pr N ∧ r1.2.2 = firedM r1.1 N ∧ ∀ k, k < N → sh k = 0 → r1.1 k = 0 := by
  refine lp_rel (fun i (s1 : (Nat → Int32) × Int32 × Int32 × Int32) (s2 : (Nat → Int32) × Int32) => s1.2.2.2 = nI i ∧ s2.2 = nI i ∧ BR pr s1.1 ta se qu im su (nI N) sc rc cn s1.2.1 s2.1 tot 0 ∧ Out row s2.1 ∧ s1.2.1 = soundM pr i ∧ s1.2.2.1 = firedM s1.1 i ∧ ∀ k, k < i → sh k = 0 → s1.1 k = 0) N (fun (r1 : (Nat → Int32) × Int32 × Int32) (r2 : Nat → Int32) => BR pr r1.1 ta se qu im su (nI N) sc rc cn r1.2.1 r2 tot 0 ∧ Out row r2 ∧ r1.2.1 = soundM pr N ∧ r1.2.2 = firedM r1.1 N ∧ ∀ k, k < N → sh k = 0 → r1.1 k = 0) ?_ 1000 0 _ _ (by omega) (by omega) ⟨rfl, rfl, hB.u_so 0, (show Out row row from fun _ _ => rfl).u (by decide) 0, rfl, rfl, fun k hk => by omega⟩
  rintro i ⟨pu, so, res, y1⟩ ⟨rw1, y2⟩ hi ⟨g1, g2, hJ, hO, hso, hre, hz⟩
  replace g1 : y1 = nI i := g1
  replace g2 : y2 = nI i := g2
  replace hJ : BR pr pu ta se qu im su (nI N) sc rc cn so rw1 tot 0 := hJ
  replace hO : Out row rw1 := hO
  replace hso : so = soundM pr i := hso
  replace hre : res = firedM pu i := hre
  replace hz : ∀ k, k < i → sh k = 0 → pu k = 0 := hz
  subst g1 g2
  obtain ⟨hC, e2⟩ := hJ.cur hN hp
  unfold f_X2_setPulses_b9 f_X5_runs_b164
  dsimp only
  rw [g0r]
  by_cases c : i < N
  · left
    refine ⟨c, ?_⟩
    obtain ⟨v, v1, v2, v0⟩ := pulse_of hC c (hs i (by omega)) h1 h2 (hn i (by omega))
    have hz' : ∀ k, k < i + 1 → sh k = 0 → upd pu i v k = 0 := by
      intro k hk hk0
      by_cases e : k = i
      · subst e; rw [us]; exact v0 hk0
      · rw [uu e]; exact hz k (by omega) hk0
    rw [if_neg (nI_ge c (by omega)), if_neg (show ¬ rw1 (0 : Int32).toNatClampNeg ≤ nI i from by rw [show rw1 (0 : Int32).toNatClampNeg = nI N from e2]; exact nI_ge c (by omega)), show f_X2_property pr (nI i) 5 = some (pr (7 * i + 5)) from (prop_of hC c 5 (by omega)).1, Option.bind_some, v1, Option.bind_some, gd_n (by omega), gd_n (by omega), nI_clamp (by omega), us]
    have pick : (if fo = 0 then f_X5_runs_j195 rw1 (nI i) 0 (108 + nI i) else (f_X5_pulseOf rw1 bes de (nI i)).bind (fun q36 => f_X5_runs_j195 rw1 (nI i) q36 (108 + nI i))) = f_X5_runs_j195 rw1 (nI i) v (108 + nI i) := by
      by_cases e : fo = 0
      · rw [if_pos e, v0 (h0 e i (by omega))]
      · rw [if_neg e, v2, Option.bind_some]
    rw [pick]
    have hJ' := hJ.u_pu i (by omega) v
    obtain ⟨hC', -⟩ := hJ'.cur hN hp
    have R : f_X5_runs_j195 rw1 (nI i) v (108 + nI i) = some (Sum.inl (upd (upd rw1 (108 + i) v) 116 (so ||| (if pr (7 * i + 6) = 0 then (1 : Int32) <<< (nI i &&& 31) else (0 : Int32))), nI (i + 1))) := by
      unfold f_X5_runs_j195
      rw [ix108, gd_n (by omega), g116, nI_clamp (by omega), show f_X5_of (upd rw1 (108 + i) v) (nI i) 6 = some (pr (7 * i + 6)) from (prop_of hC' c 6 (by omega)).2, Option.bind_some, show upd rw1 (108 + i) v (116 : Int32).toNatClampNeg = so from b_so hJ']
      unfold f_X5_runs_j221
      rw [g116, g116, show nI i + 1 = nI (i + 1) from nI_add i 1]
      split <;> rfl
    have C51 : ∀ t, f_X2_setPulses_j51 pr (upd pu i v) so (nI i) t res = some (Sum.inl (upd pu i v, so ||| (if pr (7 * i + 6) = 0 then (1 : Int32) <<< (nI i &&& 31) else (0 : Int32)), res ||| t, nI (i + 1))) := by
      intro t
      unfold f_X2_setPulses_j51 f_X2_setPulses_j75
      rw [show f_X2_property pr (nI i) 6 = some (pr (7 * i + 6)) from (prop_of hC c 6 (by omega)).1, Option.bind_some, show nI i + 1 = nI (i + 1) from nI_add i 1]
      split <;> rfl
    have C : (if v ≤ 0 then f_X2_setPulses_j51 pr (upd pu i v) so (nI i) 0 res else f_X2_setPulses_j51 pr (upd pu i v) so (nI i) (1 <<< (nI i &&& 31)) res) = some (Sum.inl (upd pu i v, so ||| (if pr (7 * i + 6) = 0 then (1 : Int32) <<< (nI i &&& 31) else (0 : Int32)), res ||| (if v ≤ 0 then (0 : Int32) else (1 : Int32) <<< (nI i &&& 31)), nI (i + 1))) := by
      rw [C51, C51]
      split <;> rfl
    rw [R, C]
    refine ⟨_, _, rfl, rfl, rfl, rfl, hJ'.u_so _, (hO.u (by omega) v).u (by decide) _, ?_, ?_, hz'⟩
    · show so ||| _ = soundM pr i ||| _
      rw [hso]
    · show res ||| _ = firedM (upd pu i v) i ||| (if upd pu i v i ≤ 0 then (0 : Int32) else _)
      rw [hre, us, firedM_c i (fun k hk => (uu (show k ≠ i by omega)).symm)]
  · right
    have : i = N := by omega
    subst this
    rw [if_pos (Int32.le_refl _), if_pos (show rw1 (0 : Int32).toNatClampNeg ≤ nI i from by rw [show rw1 (0 : Int32).toNatClampNeg = nI i from e2]; exact Int32.le_refl _)]
    exact ⟨_, _, rfl, rfl, hJ, hO, hso, hre, hz⟩
theorem give_sum {pr pu ta row : Nat → Int32} {N : Nat} (hC : Cur pr ta row N) (e2 : row 0 = nI N) (hu : ∀ k, k < 8 → row (108 + k) = pu k) (m : Int32) (v : Nat) (hv : v < 3) :
    ∃ a b, lp (f_X2_deliver_b15 pr pu (nI N) m (nI v)) 1000 (0, 0, 0) = some (a, b) ∧ lp (f_X5_runs_b245 row m (nI v)) 1000 (0, 0, 0) = some (a, b) := by
  have hN := hC.2.2.1
  have : ∃ r1 r2, lp (f_X2_deliver_b15 pr pu (nI N) m (nI v)) 1000 (0, 0, 0) = some r1 ∧ lp (f_X5_runs_b245 row m (nI v)) 1000 (0, 0, 0) = some r2 ∧ r1 = r2 := by
    refine lp_rel (fun i (s1 s2 : Int32 × Int32 × Int32) => s1 = s2 ∧ s1.2.2 = nI i) N (· = ·) ?_ 1000 0 _ _ (by omega) (by omega) ⟨rfl, rfl⟩
    rintro i ⟨a, b, y⟩ s2 hi ⟨hs, hy⟩
    replace hy : y = nI i := hy
    subst hs hy
    unfold f_X2_deliver_b15 f_X5_runs_b245
    dsimp only
    rw [g0r, show row (0 : Int32).toNatClampNeg = nI N from e2]
    by_cases c : i < N
    · left
      refine ⟨c, ?_⟩
      rw [if_neg (nI_ge c (by omega)), if_neg (nI_ge c (by omega)), gd_n (by omega), ix108, gd_n (by omega), nI_clamp (by omega), nI_clamp (by omega), hu i (by omega), (unit_of hC c v hv).1, (unit_of hC c v hv).2]
      rcases ran_of m i (by omega) with ⟨h1, -, h2⟩ | ⟨h1, h2⟩
      · simp only [Option.bind_some, h1, h2, ↓reduceIte]
        exact ⟨_, _, rfl, rfl, rfl, nI_add i 1⟩
      · simp only [Option.bind_some, h1, h2, ↓reduceIte]
        refine ⟨_, _, rfl, rfl, ?_, nI_add i 1⟩
        show (a + pu i * unitP pr i v, b + 0 * unitP pr i v, nI i + 1) = (a + pu i * unitP pr i v, b + 0, nI i + 1)
        rw [Int32.zero_mul]
    · right
      have : i = N := by omega
      subst this
      rw [if_pos (Int32.le_refl _), if_pos (Int32.le_refl _)]
      exact ⟨_, _, rfl, rfl, rfl⟩
  obtain ⟨⟨a, b⟩, r2, h1, h2, h⟩ := this
  subst h
  exact ⟨a, b, h1, h2⟩
theorem held_ok (x : Int32) : f_X5_held x = some (if (-4000) < (if x < 4000 then x else 4000) then (if x < 4000 then x else 4000) else (-4000)) := by
  unfold f_X5_held
  simp only [Int32.le_iff_toInt_le, Int32.lt_iff_toInt_lt]
  have a : (-4000 : Int32).toInt = -4000 := by decide
  have b : (4000 : Int32).toInt = 4000 := by decide
  by_cases c : x.toInt < (4000 : Int32).toInt
  · rw [if_pos c]
    by_cases d : (-4000 : Int32).toInt ≤ x.toInt
    · rw [if_pos d, if_pos (by omega)]
      by_cases e : (-4000 : Int32).toInt < x.toInt
      · rw [if_pos e]
      · rw [if_neg e]; exact congrArg some (Int32.toInt_inj.mp (by omega))
    · rw [if_neg d, if_neg (by omega)]
  · rw [if_neg c, if_pos (show (-4000 : Int32).toInt < (4000 : Int32).toInt by decide), if_pos (by omega)]
    by_cases e : x.toInt ≤ (4000 : Int32).toInt
    · rw [if_pos e]; exact congrArg some (Int32.toInt_inj.mp (by omega))
    · rw [if_neg e]
theorem give_ok {pr pu ta se qu im : Nat → Int32} {su : Nat → Int64} {sc rc cn so : Int32} {row : Nat → Int32} {tot : Nat → Int64} {N : Nat} (hB : BR pr pu ta se qu im su (nI N) sc rc cn so row tot 0) (hN : N ≤ 8) (hp : ∀ i, i < N → PV pr i) (m : Int32) :
    ∃ r1 r2, lp (f_X2_deliver_b2 pr pu (nI N) m) 1000 (im, su, 0) = some r1 ∧ lp (f_X5_runs_b231 m) 1000 (row, tot, 0) = some r2 ∧ BR pr pu ta se qu r1.1 r1.2 (nI N) sc rc cn so r2.1 r2.2 0 ∧ Out row r2.1 ∧ OutL tot r2.2 := by
  refine lp_rel (fun v (s1 s2 : (Nat → Int32) × (Nat → Int64) × Int32) => s1.2.2 = nI v ∧ s2.2.2 = nI v ∧ BR pr pu ta se qu s1.1 s1.2.1 (nI N) sc rc cn so s2.1 s2.2.1 0 ∧ Out row s2.1 ∧ OutL tot s2.2.1) 3 (fun (r1 r2 : (Nat → Int32) × (Nat → Int64)) => BR pr pu ta se qu r1.1 r1.2 (nI N) sc rc cn so r2.1 r2.2 0 ∧ Out row r2.1 ∧ OutL tot r2.2) ?_ 1000 0 _ _ (by omega) (by omega) ⟨rfl, rfl, hB, fun _ _ => rfl, fun _ _ => rfl⟩
  rintro v ⟨im, su, y1⟩ ⟨rw1, tot1, y2⟩ hv ⟨g1, g2, hJ, hO, hO2⟩
  replace g1 : y1 = nI v := g1
  replace g2 : y2 = nI v := g2
  replace hJ : BR pr pu ta se qu im su (nI N) sc rc cn so rw1 tot1 0 := hJ
  replace hO : Out row rw1 := hO
  replace hO2 : OutL tot tot1 := hO2
  subst g1 g2
  unfold f_X2_deliver_b2 f_X5_runs_b231
  dsimp only
  by_cases c : v < 3
  · left
    refine ⟨c, ?_⟩
    obtain ⟨hC, e2⟩ := hJ.cur hN hp
    obtain ⟨a, b, l1, l2⟩ := give_sum hC e2 (fun k hk => b_pu hJ hk) m v c
    have n3 : ¬ (3 : Int32) ≤ nI v := nI_ge (b := 3) c (by omega)
    have hi : f_X2_impulsePart im 2 (nI v) = some (im (6 + v)) := by
      unfold f_X2_impulsePart
      rw [(ix6 v).2.2.2.2.1, gd_n (by omega), nI_clamp (by omega)]
    have h6 : rw1 (105 + v) = im (6 + v) := by rw [← b_im hJ (show 6 + v < 9 by omega)]; exact congrArg rw1 (by omega)
    rw [if_neg n3, if_neg n3, l1, l2, Option.bind_some, Option.bind_some, hi, Option.bind_some, (ix6 v).2.2.1, (ix6 v).2.2.2.1, ix102, ix99, (ix6 v).2.1]
    dsimp only
    rw [gd_n (by omega), gd_n (by omega), gd_n (by omega), gd_n (by omega), gd_n (by omega), gd_n (by omega), nI_clamp (by omega), nI_clamp (by omega), nI_clamp (by omega), nI_clamp (by omega), nI_clamp (by omega), nI_clamp (by omega), uu (by omega), h6, held_ok, Option.bind_some, gd_n (by omega), gd_n (by omega), gd_n (by omega), b_su hJ c]
    generalize (if (-4000 : Int32) < (if im (6 + v) - a < 4000 then im (6 + v) - a else 4000) then (if im (6 + v) - a < 4000 then im (6 + v) - a else 4000) else (-4000)) = hh
    refine ⟨_, _, rfl, rfl, nI_add v 1, nI_add v 1, ?_, (hO.u (by omega) _).u (by omega) _, hO2.u (by omega) _⟩
    have := ((hJ.u_im (0 + v) (by omega) hh).u_im (3 + v) (by omega) (a + b)).u_su v (su v + (a + b).toInt64)
    rw [show 99 + (0 + v) = 99 + v from by omega, show 99 + (3 + v) = 102 + v from by omega, upd_comm (show 99 + v ≠ 102 + v by omega)] at this
    exact this
  · right
    have : v = 3 := by omega
    subst this
    exact ⟨_, _, rfl, rfl, hJ, hO, hO2⟩
theorem burn_ok {pr pu ta se qu im : Nat → Int32} {su : Nat → Int64} {sc rc cn so : Int32} {row : Nat → Int32} {tot : Nat → Int64} {N : Nat} (hB : BR pr pu ta se qu im su (nI N) sc rc cn so row tot 0) (hN : N ≤ 8) (hp : ∀ i, i < N → PV pr i) (m : Int32) (hm : ∀ i, i < N → m.toBitVec.getLsbD i = true → pu i = 0) :
    ∃ ta' row', lp (f_X2_burn_b2 pr pu (nI N) m) 1000 (ta, 0) = some ta' ∧ lp (f_X5_runs_b375 m) 1000 (row, 0) = some row' ∧ BR pr pu ta' se qu im su (nI N) sc rc cn so row' tot 0 ∧ Out row row' := by
  refine lp_rel (fun v (s1 s2 : (Nat → Int32) × Int32) => s1.2 = nI v ∧ s2.2 = nI v ∧ BR pr pu s1.1 se qu im su (nI N) sc rc cn so s2.1 tot 0 ∧ Out row s2.1) N (fun (a b : Nat → Int32) => BR pr pu a se qu im su (nI N) sc rc cn so b tot 0 ∧ Out row b) ?_ 1000 0 _ _ (by omega) (by omega) ⟨rfl, rfl, hB, fun _ _ => rfl⟩
  rintro i ⟨ta, y1⟩ ⟨rw1, y2⟩ hi ⟨g1, g2, hJ, hO⟩
  replace g1 : y1 = nI i := g1
  replace g2 : y2 = nI i := g2
  replace hJ : BR pr pu ta se qu im su (nI N) sc rc cn so rw1 tot 0 := hJ
  replace hO : Out row rw1 := hO
  subst g1 g2
  obtain ⟨hC, e2⟩ := hJ.cur hN hp
  unfold f_X2_burn_b2 f_X5_runs_b375
  dsimp only
  rw [g0r]
  by_cases c : i < N
  · left
    refine ⟨c, ?_⟩
    obtain ⟨t, ht, e4, f1, f2⟩ := fuel_of hC c
    have p3 := prop_of hC c 3 (by omega)
    have p4 := prop_of hC c 4 (by omega)
    have mx : ∀ x : Int32, (if 0 < x then x else 0) = (if 0 ≤ x then x else 0) := by
      intro x
      simp only [Int32.le_iff_toInt_le, Int32.lt_iff_toInt_lt]
      have z : (0 : Int32).toInt = 0 := by decide
      by_cases a : (0 : Int32).toInt < x.toInt
      · rw [if_pos a, if_pos (by omega)]
      · rw [if_neg a]
        by_cases b : (0 : Int32).toInt ≤ x.toInt
        · rw [if_pos b]; exact Int32.toInt_inj.mp (by omega)
        · rw [if_neg b]
    have R : ∀ u, f_X5_runs_j408 rw1 (nI i) u = some (Sum.inl (upd rw1 (57 + t) (if 0 < ta t - u * pr (7 * i + 3) then ta t - u * pr (7 * i + 3) else 0), nI (i + 1))) := by
      intro u
      unfold f_X5_runs_j408 f_X5_runs_j451
      rw [f2, Option.bind_some, show f_X5_of rw1 (nI i) 3 = some (pr (7 * i + 3)) from p3.2, Option.bind_some, show f_X5_of rw1 (nI i) 4 = some (pr (7 * i + 4)) from p4.2, Option.bind_some, e4, ix57, gd_n (by omega), gd_n (by omega), nI_clamp (by omega), mx, show nI i + 1 = nI (i + 1) from nI_add i 1]
      split <;> rfl
    have C : ∀ q, f_X2_ranTicks m (nI i) = some q → (f_X2_ranTicks m (nI i)).bind (fun q4 => (f_X2_property pr (nI i) 3).bind (fun q5 => (f_X2_property pr (nI i) 4).bind (fun q6 => (f_X2_fuelOf pr ta (nI i)).bind (fun q7 => gd (ib q6 2) (some (@Sum.inl ((Nat → Int32) × Int32) (Nat → Int32) ((upd ta q6.toNatClampNeg (if 0 < (q7 - (((pu (nI i).toNatClampNeg) + q4) * q5)) then (q7 - (((pu (nI i).toNatClampNeg) + q4) * q5)) else 0)), (nI i + 1)))))))) = some (Sum.inl (upd ta t (if 0 < ta t - (pu i + q) * pr (7 * i + 3) then ta t - (pu i + q) * pr (7 * i + 3) else 0), nI (i + 1))) := by
      intro q hq
      rw [hq, Option.bind_some, show f_X2_property pr (nI i) 3 = some (pr (7 * i + 3)) from p3.1, Option.bind_some, show f_X2_property pr (nI i) 4 = some (pr (7 * i + 4)) from p4.1, Option.bind_some, f1, Option.bind_some, e4, gd_n (by omega), nI_clamp (by omega), nI_clamp (by omega), show nI i + 1 = nI (i + 1) from nI_add i 1]
    rw [if_neg (nI_ge c (by omega)), if_neg (show ¬ rw1 (0 : Int32).toNatClampNeg ≤ nI i from by rw [show rw1 (0 : Int32).toNatClampNeg = nI N from e2]; exact nI_ge c (by omega)), gd_n (by omega)]
    rcases ran_of m i (by omega) with ⟨h1, hb, h2⟩ | ⟨h1, h2⟩
    · rw [if_pos h1, R, C 20 h2, hm i c hb, Int32.zero_add]
      exact ⟨_, _, rfl, rfl, rfl, rfl, hJ.u_ta t ht _, hO.u (by omega) _⟩
    · rw [if_neg h1, ix108, gd_n (by omega), R, C 0 h2, nI_clamp (by omega), b_pu hJ (by omega), Int32.add_zero]
      exact ⟨_, _, rfl, rfl, rfl, rfl, hJ.u_ta t ht _, hO.u (by omega) _⟩
  · right
    have : i = N := by omega
    subst this
    rw [if_pos (Int32.le_refl _), if_pos (show rw1 (0 : Int32).toNatClampNeg ≤ nI i from by rw [show rw1 (0 : Int32).toNatClampNeg = nI i from e2]; exact Int32.le_refl _)]
    exact ⟨_, _, rfl, rfl, hJ, hO⟩


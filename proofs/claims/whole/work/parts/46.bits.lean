/-! bits -/
theorem bit_at (x : Int32) (i : Nat) (hi : i < 8) : ((x >>> (nI i &&& 31)) &&& 1) = if x.toBitVec.getLsbD i then 1 else 0 := by
  have key : ∀ (k : Nat) (s : Int32), k < 8 → (s.toBitVec.smod 32).toNat = k → ((x >>> s) &&& 1) = if x.toBitVec.getLsbD k then 1 else 0 := by
    intro k s hk hs
    apply Int32.toBitVec_inj.mp
    rw [Int32.toBitVec_and, Int32.toBitVec_shiftRight, BitVec.sshiftRight', hs]
    apply BitVec.eq_of_getLsbD_eq
    intro j hj
    rw [BitVec.getLsbD_and, BitVec.getLsbD_sshiftRight]
    cases hb : x.toBitVec.getLsbD k with
    | false =>
      rcases Nat.eq_zero_or_pos j with rfl | hp
      · simp [show k < 32 by omega, hb]
        try (rw [← BitVec.getLsbD_eq_getElem]; exact hb)
      · have e1 : (1 : Int32).toBitVec.getLsbD j = false := by
          show (1#32).getLsbD j = false
          rw [BitVec.getLsbD_one]; simp; omega
        rw [e1, Bool.and_false]; simp
    | true =>
      rcases Nat.eq_zero_or_pos j with rfl | hp
      · simp [show k < 32 by omega, hb]
      · have e1 : (1 : Int32).toBitVec.getLsbD j = false := by
          show (1#32).getLsbD j = false
          rw [BitVec.getLsbD_one]; simp; omega
        rw [e1, Bool.and_false]
        exact e1.symm
  match i, hi with
  | 0, _ => exact key 0 _ (by omega) (by decide)
  | 1, _ => exact key 1 _ (by omega) (by decide)
  | 2, _ => exact key 2 _ (by omega) (by decide)
  | 3, _ => exact key 3 _ (by omega) (by decide)
  | 4, _ => exact key 4 _ (by omega) (by decide)
  | 5, _ => exact key 5 _ (by omega) (by decide)
  | 6, _ => exact key 6 _ (by omega) (by decide)
  | 7, _ => exact key 7 _ (by omega) (by decide)
theorem bit_1 (i j : Nat) (hi : i < 8) (hj : j < 8) : ((1 : Int32) <<< (nI i &&& 31)).toBitVec.getLsbD j = decide (j = i) := by
  have h : ∀ i, i < 8 → ∀ j, j < 8 → ((1 : Int32) <<< (nI i &&& 31)).toBitVec.getLsbD j = decide (j = i) := by decide +kernel
  exact h i hi j hj
theorem bit_or (x y : Int32) (j : Nat) : (x ||| y).toBitVec.getLsbD j = (x.toBitVec.getLsbD j || y.toBitVec.getLsbD j) := by
  rw [Int32.toBitVec_or, BitVec.getLsbD_or]
theorem bit_0 (j : Nat) : (0 : Int32).toBitVec.getLsbD j = false := by
  show (0#32).getLsbD j = false
  rw [BitVec.getLsbD_zero]
theorem bits_in (a s : Int32) : (a &&& s) = s ↔ (s &&& (a ^^^ (-1))) = 0 := by
  have e1 : (-1 : Int32).toBitVec = BitVec.allOnes 32 := by decide
  constructor
  · intro h
    apply Int32.toBitVec_inj.mp
    have h2 := congrArg Int32.toBitVec h
    rw [Int32.toBitVec_and] at h2
    rw [Int32.toBitVec_and, Int32.toBitVec_xor, e1]
    apply BitVec.eq_of_getLsbD_eq
    intro i hi
    have h3 := congrArg (fun b => BitVec.getLsbD b i) h2
    simp only [BitVec.getLsbD_and] at h3
    rw [BitVec.getLsbD_and, BitVec.getLsbD_xor, BitVec.getLsbD_allOnes]
    show _ = (0#32).getLsbD i
    rw [BitVec.getLsbD_zero]
    cases ha : a.toBitVec.getLsbD i <;> cases hs : s.toBitVec.getLsbD i <;> simp_all
  · intro h
    apply Int32.toBitVec_inj.mp
    have h2 := congrArg Int32.toBitVec h
    rw [Int32.toBitVec_and, Int32.toBitVec_xor, e1] at h2
    rw [Int32.toBitVec_and]
    apply BitVec.eq_of_getLsbD_eq
    intro i hi
    have h3 := congrArg (fun b => BitVec.getLsbD b i) h2
    simp only [BitVec.getLsbD_and, BitVec.getLsbD_xor, BitVec.getLsbD_allOnes] at h3
    rw [show (0 : Int32).toBitVec = 0#32 from rfl, BitVec.getLsbD_zero] at h3
    rw [BitVec.getLsbD_and]
    cases ha : a.toBitVec.getLsbD i <;> cases hs : s.toBitVec.getLsbD i <;> simp_all
/-- the running thrusters -/
theorem run_of {pr ta row : Nat → Int32} {N : Nat} (hC : Cur pr ta row N) (e2 : row 0 = nI N) : ∃ m, f_X2_runningMask pr ta (nI N) = some m ∧ f_X5_running row = some m ∧ ∀ i, i < 8 → m.toBitVec.getLsbD i = true → i < N ∧ pr (7 * i + 6) = 2 := by
  have hN := hC.2.2.1
  obtain ⟨r1, r2, e1, e3, e4, hr⟩ := lp_rel (b1 := f_X2_runningMask_b4 pr ta (nI N)) (b2 := f_X5_running_b4 row) (fun i s1 s2 => s1 = s2 ∧ s1.2 = nI i ∧ ∀ j, j < 8 → s1.1.toBitVec.getLsbD j = true → j < i ∧ pr (7 * j + 6) = 2) N (fun r1 r2 => r1 = r2 ∧ ∀ j, j < 8 → r1.toBitVec.getLsbD j = true → j < N ∧ pr (7 * j + 6) = 2) (by
    rintro i ⟨x, y⟩ s2 hi ⟨rfl, hy, hJ⟩
    replace hy : y = nI i := hy
    replace hJ : ∀ j, j < 8 → x.toBitVec.getLsbD j = true → j < i ∧ pr (7 * j + 6) = 2 := hJ
    subst hy
    rcases Nat.lt_or_ge i N with hlt | hge
    · have hn : ¬ nI N ≤ nI i := nI_ge hlt (by omega)
      obtain ⟨u, u1, u2, u3, u4⟩ := running_of hC hlt
      refine Or.inl ⟨hlt, (x ||| (if u = 0 then (0 : Int32) else (1 : Int32) <<< (nI i &&& 31)), nI (i + 1)), (x ||| (if u = 0 then (0 : Int32) else (1 : Int32) <<< (nI i &&& 31)), nI (i + 1)), ?_, ?_, rfl, rfl, fun j hj hb => ?_⟩
      · unfold f_X2_runningMask_b4 f_X2_runningMask_j28
        show (if nI N ≤ nI i then _ else (f_X2_isRunning pr ta (nI i)).bind _) = _
        rw [if_neg hn, u1, Option.bind_some]
        show (if u = 0 then some (Sum.inl (x ||| 0, nI i + 1)) else some (Sum.inl (x ||| 1 <<< (nI i &&& 31), nI i + 1))) = _
        rw [ap1]
        by_cases c : u = 0
        · rw [if_pos c, if_pos c]
        · rw [if_neg c, if_neg c]
      · unfold f_X5_running_b4 f_X5_running_j30
        show gd (ib 0 708) (if row (0 : Int32).toNatClampNeg ≤ nI i then _ else (f_X5_isRunning row (nI i)).bind _) = _
        rw [g0, c0, e2, if_neg hn, u2, Option.bind_some]
        show (if u = 0 then some (Sum.inl (x ||| 0, nI i + 1)) else some (Sum.inl (x ||| 1 <<< (nI i &&& 31), nI i + 1))) = _
        rw [ap1]
        by_cases c : u = 0
        · rw [if_pos c, if_pos c]
        · rw [if_neg c, if_neg c]
      · replace hb : (x ||| (if u = 0 then (0 : Int32) else (1 : Int32) <<< (nI i &&& 31))).toBitVec.getLsbD j = true := hb
        rw [bit_or, Bool.or_eq_true] at hb
        rcases hb with hb | hb
        · have := hJ j hj hb
          exact ⟨by omega, this.2⟩
        · by_cases c : u = 0
          · rw [if_pos c, bit_0] at hb; cases hb
          · rw [if_neg c, bit_1 i j (by omega) hj, decide_eq_true_eq] at hb
            subst hb
            exact ⟨by omega, u4 (u3.resolve_left c)⟩
    · have hi : i = N := by omega
      subst hi
      refine Or.inr ⟨x, x, ?_, ?_, rfl, hJ⟩
      · unfold f_X2_runningMask_b4
        show (if nI i ≤ nI i then _ else _) = _
        rw [if_pos (nI_le (Nat.le_refl _) (by omega))]
      · unfold f_X5_running_b4
        show gd (ib 0 708) (if row (0 : Int32).toNatClampNeg ≤ nI i then _ else _) = _
        rw [g0, c0, e2, if_pos (nI_le (Nat.le_refl _) (by omega))]) 1000 0 (0, 0) (0, 0) (Nat.zero_le _) (by omega) ⟨rfl, rfl, fun j hj hb => by rw [bit_0] at hb; cases hb⟩
  subst e4
  refine ⟨r1, ?_, ?_, hr⟩
  · unfold f_X2_runningMask; rw [e1]; rfl
  · unfold f_X5_running; rw [e3]; rfl
/-- whether what fires contains a forbidden set -/
theorem forb_of {se row : Nat → Int32} {S : Nat} (hS : S ≤ 8) (h59 : row 59 = nI S) (hq : ∀ k, k < 8 → row (60 + k) = se k) (all : Int32) : ∃ u, f_X2_forbids se (nI S) all = some u ∧ lp (f_X5_isBad_b12 row all) 1000 (0, 0) = some u ∧ (u = 0 ∨ u = 1) := by
  obtain ⟨r1, e1, h1⟩ := lp_run (b := f_X2_forbids_b2 se (nI S) all) (fun i s => s = nI i ∧ ∀ j, j < i → ¬ (all &&& se j) = se j) S (fun r => (r = Sum.inl () ∧ ∃ j, j < S ∧ (all &&& se j) = se j) ∨ (r = Sum.inr () ∧ ∀ j, j < S → ¬ (all &&& se j) = se j)) (by
    rintro i s hi ⟨rfl, hJ⟩
    unfold f_X2_forbids_b2
    rcases Nat.lt_or_ge i S with hlt | hge
    · rw [if_neg (nI_ge hlt (by omega)), gd_n (by omega), gd_n (by omega), nI_clamp (by omega)]
      by_cases c : (all &&& se i) = se i
      · rw [if_pos c]; exact Or.inr ⟨_, rfl, Or.inl ⟨rfl, i, hlt, c⟩⟩
      · rw [if_neg c]
        refine Or.inl ⟨hlt, _, rfl, ap1 i, fun j hj => ?_⟩
        by_cases d : j = i
        · subst d; exact c
        · exact hJ j (by omega)
    · have hi : i = S := by omega
      subst hi
      rw [if_pos (nI_le (Nat.le_refl _) (by omega))]
      exact Or.inr ⟨_, rfl, Or.inr ⟨rfl, hJ⟩⟩) 1000 0 0 (Nat.zero_le _) (by omega) ⟨rfl, fun j hj => by omega⟩
  obtain ⟨r2, e2, h2⟩ := lp_run (b := f_X5_isBad_b12 row all) (fun i s => s.2 = nI i ∧ ((s.1 = 1 ∧ ∃ j, j < i ∧ (all &&& se j) = se j) ∨ (s.1 = 0 ∧ ∀ j, j < i → ¬ (all &&& se j) = se j))) S (fun r => (r = 1 ∧ ∃ j, j < S ∧ (all &&& se j) = se j) ∨ (r = 0 ∧ ∀ j, j < S → ¬ (all &&& se j) = se j)) (by
    rintro i ⟨x, y⟩ hi ⟨hy, hJ⟩
    replace hy : y = nI i := hy
    replace hJ : (x = 1 ∧ ∃ j, j < i ∧ (all &&& se j) = se j) ∨ (x = 0 ∧ ∀ j, j < i → ¬ (all &&& se j) = se j) := hJ
    subst hy
    unfold f_X5_isBad_b12 f_X5_isBad_j45 f_X5_isBad_j50
    rcases Nat.lt_or_ge i S with hlt | hge
    · have go : ∀ w : Int32, ((w = 1 ∧ ∃ j, j < i + 1 ∧ (all &&& se j) = se j) ∨ (w = 0 ∧ ∀ j, j < i + 1 → ¬ (all &&& se j) = se j)) → ∃ s', some (Sum.inl (w, nI i + 1)) = (some (Sum.inl s') : Option ((Int32 × Int32) ⊕ Int32)) ∧ s'.2 = nI (i + 1) ∧ ((s'.1 = 1 ∧ ∃ j, j < i + 1 ∧ (all &&& se j) = se j) ∨ (s'.1 = 0 ∧ ∀ j, j < i + 1 → ¬ (all &&& se j) = se j)) := fun w hw => ⟨_, rfl, ap1 i, hw⟩
      refine Or.inl ⟨hlt, ?_⟩
      show ∃ s', gd (ib 59 708) (if row (59 : Int32).toNatClampNeg ≤ nI i then _ else if x = 0 then gd (ib (60 + nI i) 708) (if ((row ((60 : Int32) + nI i).toNatClampNeg) &&& (all ^^^ (-1))) = 0 then some (Sum.inl (1, nI i + 1)) else some (Sum.inl (0, nI i + 1))) else some (Sum.inl (1, nI i + 1))) = some (Sum.inl s') ∧ _
      rw [g59, c59, h59, if_neg (nI_ge hlt (by omega))]
      rcases hJ with ⟨rfl, j, hj, hb⟩ | ⟨rfl, hJ⟩
      · rw [if_neg (by decide)]
        exact go 1 (Or.inl ⟨rfl, j, by omega, hb⟩)
      · rw [if_pos rfl, show (60 : Int32) + nI i = nI (60 + i) from nI_add 60 i, gd_n (by omega), nI_clamp (by omega), hq i (by omega)]
        by_cases c : (all &&& se i) = se i
        · rw [if_pos ((bits_in all (se i)).mp c)]
          exact go 1 (Or.inl ⟨rfl, i, by omega, c⟩)
        · rw [if_neg (fun h => c ((bits_in all (se i)).mpr h))]
          refine go 0 (Or.inr ⟨rfl, fun j hj => ?_⟩)
          by_cases d : j = i
          · subst d; exact c
          · exact hJ j (by omega)
    · have hi : i = S := by omega
      subst hi
      refine Or.inr ⟨x, ?_, hJ⟩
      show gd (ib 59 708) (if row (59 : Int32).toNatClampNeg ≤ nI i then _ else _) = _
      rw [g59, c59, h59, if_pos (nI_le (Nat.le_refl _) (by omega))]) 1000 0 (0, 0) (Nat.zero_le _) (by omega) ⟨rfl, Or.inr ⟨rfl, fun j hj => by omega⟩⟩
  unfold f_X2_forbids
  rw [e1, Option.bind_some]
  rcases h1 with ⟨rfl, j, hj, hb⟩ | ⟨rfl, hn⟩
  · rcases h2 with ⟨rfl, -⟩ | ⟨rfl, hn⟩
    · exact ⟨1, rfl, e2, Or.inr rfl⟩
    · exact absurd hb (hn j hj)
  · rcases h2 with ⟨rfl, j, hj, hb⟩ | ⟨rfl, -⟩
    · exact absurd hb (hn j hj)
    · exact ⟨0, rfl, e2, Or.inl rfl⟩
theorem eq_isForbidden {pr : Nat → Int32} {pu : Nat → Int32} {ta : Nat → Int32} {se : Nat → Int32} {qu : Nat → Int32} {im : Nat → Int32} {su : Nat → Int64} {tc : Int32} {sc : Int32} {rc : Int32} {cn : Int32} {so : Int32} {bt : Nat → Int32} {le : Int32} {hs : Nat → SV} {ol : Int32} {ct : Int32} {row : Nat → Int32} {tot : Nat → Int64} {txt : Nat → Int32} {sav : Int32} {len : Int32} (p0 : Int32) (hI : Inv pr pu ta se qu im su tc sc rc cn so hs ol ct bt le row tot sav txt len) : ∃ q4 q5, f_X4_isForbidden pr ta se tc sc p0 = some q4 ∧ f_X5_isForbidden row p0 = some q5 ∧ q4 = q5 ∧ Inv pr pu ta se qu im su tc sc rc cn so hs ol ct bt le row tot sav txt len := by
  obtain ⟨N, rfl, e2, hC⟩ := hI.cur
  obtain ⟨hB, ⟨-, S, -, -, -, rfl, hS, -, -, -, -⟩, -, -⟩ := id hI
  obtain ⟨m, m1, m2, -⟩ := run_of hC e2
  unfold f_X4_isForbidden f_X5_isForbidden f_X5_isBad
  rw [in_eq]
  rcases wi p0 0 255 with ⟨h, -⟩ | ⟨h, -⟩
  · rw [h]; exact ⟨_, _, rfl, rfl, rfl, hI⟩
  · rw [h, m1, m2]
    simp only [n10, ↓reduceIte, Option.bind_some]
    obtain ⟨u, u1, u2, u3⟩ := forb_of hS (b_sc hB) (fun k hk => b_se hB hk) (p0 ||| m)
    rw [u1, u2]
    simp only [Option.bind_some]
    rw [gd_t (show zb u = true from by rcases u3 with rfl | rfl <;> decide), Option.bind_some]
    by_cases c : u = 0
    · rw [if_pos c]; exact ⟨_, _, rfl, rfl, rfl, hI⟩
    · rw [if_neg c]; exact ⟨_, _, rfl, rfl, rfl, hI⟩


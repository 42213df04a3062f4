/-! what the class reads, as values -/
def Cu (pr : Nat → Int32) (N : Nat) : Prop := N ≤ 8 ∧ ∀ i, i < N → PV pr i
def tnk (pr : Nat → Int32) (i : Nat) : Nat := (pr (7 * i + 4)).toNatClampNeg
def fuT (pr ta : Nat → Int32) (i : Nat) : Int32 := ta (tnk pr i)
def usb (pr ta : Nat → Int32) (i : Nat) : Int32 := if pr (7 * i + 6) = 0 then (if fuT pr ta i < 600 then 0 else 1) else 0
def rng (pr ta : Nat → Int32) (i : Nat) : Int32 := if pr (7 * i + 6) = 2 then (if fuT pr ta i < 20 * pr (7 * i + 3) then 0 else 1) else 0
theorem usb01 (pr ta : Nat → Int32) (i : Nat) : usb pr ta i = 0 ∨ usb pr ta i = 1 := by
  unfold usb
  split
  · split
    · exact .inl rfl
    · exact .inr rfl
  · exact .inl rfl
theorem rng01 (pr ta : Nat → Int32) (i : Nat) : rng pr ta i = 0 ∨ rng pr ta i = 1 := by
  unfold rng
  split
  · split
    · exact .inl rfl
    · exact .inr rfl
  · exact .inl rfl
theorem usb_st {pr ta : Nat → Int32} {i : Nat} (h : usb pr ta i = 1) : pr (7 * i + 6) = 0 := by
  unfold usb at h
  by_cases c : pr (7 * i + 6) = 0
  · exact c
  · rw [if_neg c] at h; exact absurd h (by decide)
theorem rng_st {pr ta : Nat → Int32} {i : Nat} (h : rng pr ta i = 1) : pr (7 * i + 6) = 2 := by
  unfold rng at h
  by_cases c : pr (7 * i + 6) = 2
  · exact c
  · rw [if_neg c] at h; exact absurd h (by decide)
section RD
variable {pr ta : Nat → Int32} {N i : Nat}
theorem prop_of (hC : Cu pr N) (hi : i < N) (w : Nat) (hw : w < 7) : f_X2_property pr (nI i) (nI w) = some (pr (7 * i + w)) := by
  have hN := hC.1
  exact prop_ok _ _ _ (by omega)
theorem tnk_of (hC : Cu pr N) (hi : i < N) : tnk pr i < 2 ∧ pr (7 * i + 4) = nI (tnk pr i) := by
  obtain ⟨t, ht, e⟩ := (hC.2 i hi).2.2.2.2.1
  have h : tnk pr i = t := by unfold tnk; rw [e]; exact nI_clamp (by omega)
  rw [h]; exact ⟨ht, e⟩
theorem fuel_of (hC : Cu pr N) (hi : i < N) : f_X2_fuelOf pr ta (nI i) = some (fuT pr ta i) := by
  obtain ⟨ht, e⟩ := tnk_of hC hi
  have h1 := prop_of hC hi 4 (by omega)
  unfold f_X2_fuelOf fuT
  rw [show (4 : Int32) = nI 4 from rfl, h1, Option.bind_some, e, gd_n ht, nI_clamp (by omega)]
theorem usable_of (hC : Cu pr N) (hi : i < N) : f_X2_isUsable pr ta (nI i) = some (usb pr ta i) := by
  have h1 := prop_of hC hi 6 (by omega)
  have h3 := fuel_of (ta := ta) hC hi
  unfold f_X2_isUsable usb
  rw [show (6 : Int32) = nI 6 from rfl, h1]
  simp only [Option.bind_some]
  by_cases c : pr (7 * i + 6) = 0
  · rw [if_pos c, if_pos c, h3]
    simp only [Option.bind_some]
    by_cases d : fuT pr ta i < 600
    · rw [if_pos d, if_pos d]
    · rw [if_neg d, if_neg d]
  · rw [if_neg c, if_neg c]
theorem running_of (hC : Cu pr N) (hi : i < N) : f_X2_isRunning pr ta (nI i) = some (rng pr ta i) := by
  have h1 := prop_of hC hi 6 (by omega)
  have g1 := prop_of hC hi 3 (by omega)
  have h3 := fuel_of (ta := ta) hC hi
  unfold f_X2_isRunning rng
  rw [show (6 : Int32) = nI 6 from rfl, show (3 : Int32) = nI 3 from rfl, h1]
  simp only [Option.bind_some]
  by_cases c : pr (7 * i + 6) = 2
  · rw [if_pos c, if_pos c, h3]
    simp only [Option.bind_some]
    rw [g1]
    simp only [Option.bind_some]
    by_cases d : fuT pr ta i < 20 * pr (7 * i + 3)
    · rw [if_pos d, if_pos d]
    · rw [if_neg d, if_neg d]
  · rw [if_neg c, if_neg c]
theorem unit_of (hC : Cu pr N) (hi : i < N) (k : Nat) (hk : k < 3) : f_X2_unitPart pr (nI i) (nI k) = some (unitP pr i k) := by
  obtain ⟨d, hd, ed⟩ := (hC.2 i hi).2.2.1
  have a0 := prop_of hC hi 0 (by omega)
  have a1 := prop_of hC hi 1 (by omega)
  have a2 := prop_of hC hi 2 (by omega)
  have a3 := prop_of hC hi 3 (by omega)
  have e0 : (0 : Int32) = nI 0 := rfl
  have e1 : (1 : Int32) = nI 1 := rfl
  have ec : (nI d).toNatClampNeg = d := nI_clamp (by omega)
  unfold f_X2_unitPart unitP
  rw [show (3 : Int32) = nI 3 from rfl, show (2 : Int32) = nI 2 from rfl, a3, Option.bind_some, a2, Option.bind_some, ed, gd_n hd, Option.bind_some, gd_n hd, ec]
  match k, hk with
  | 0, _ => rfl
  | 1, _ => rfl
  | 2, _ =>
    rw [if_neg (by decide), if_neg (by decide), e0, e1, a0, Option.bind_some, a1, Option.bind_some]
    rfl
end RD
/-- the running thrusters, the first n -/
def runM (pr ta : Nat → Int32) : Nat → Int32
  | 0 => 0
  | n + 1 => runM pr ta n ||| (if rng pr ta n = 0 then (0 : Int32) else (1 : Int32) <<< (nI n &&& 31))
theorem run_of {pr ta : Nat → Int32} {N : Nat} (hC : Cu pr N) : f_X2_runningMask pr ta (nI N) = some (runM pr ta N) := by
  have hN := hC.1
  obtain ⟨r, e, h⟩ := lp_run (b := f_X2_runningMask_b4 pr ta (nI N)) (fun i s => s = (runM pr ta i, nI i)) N (fun r => r = runM pr ta N) (by
    rintro i s hi rfl
    unfold f_X2_runningMask_b4 f_X2_runningMask_j28
    rcases Nat.lt_or_ge i N with hlt | hge
    · refine Or.inl ⟨hlt, _, ?_, rfl⟩
      show (if nI N ≤ nI i then _ else (f_X2_isRunning pr ta (nI i)).bind _) = _
      rw [if_neg (nI_ge hlt (by omega)), running_of hC hlt, Option.bind_some]
      show (if rng pr ta i = 0 then some (Sum.inl (runM pr ta i ||| 0, nI i + 1)) else some (Sum.inl (runM pr ta i ||| 1 <<< (nI i &&& 31), nI i + 1))) = some (Sum.inl (runM pr ta i ||| _, _))
      rw [ap1]
      by_cases c : rng pr ta i = 0
      · rw [if_pos c, if_pos c]
      · rw [if_neg c, if_neg c]
    · have hi : i = N := by omega
      subst hi
      refine Or.inr ⟨runM pr ta i, ?_, rfl⟩
      show (if nI i ≤ nI i then _ else _) = _
      rw [if_pos (nI_le (Nat.le_refl _) (by omega))]) 1000 0 (0, 0) (Nat.zero_le _) (by omega) rfl
  subst h
  unfold f_X2_runningMask; rw [e]; rfl
theorem runM_bit {pr ta : Nat → Int32} : ∀ n, n ≤ 8 → ∀ j, j < 8 → ((runM pr ta n).toBitVec.getLsbD j = true ↔ j < n ∧ rng pr ta j = 1) := by
  intro n
  induction n with
  | zero =>
    intro _ j hj
    show (0 : Int32).toBitVec.getLsbD j = true ↔ _
    rw [bit_0]
    exact ⟨fun h => (by cases h), fun h => by omega⟩
  | succ n ih =>
    intro hn j hj
    show (runM pr ta n ||| _).toBitVec.getLsbD j = true ↔ _
    rw [bit_or, Bool.or_eq_true, ih (by omega) j hj]
    by_cases c : rng pr ta n = 0
    · rw [if_pos c, bit_0]
      constructor
      · rintro (h | h)
        · exact ⟨by omega, h.2⟩
        · cases h
      · rintro ⟨h1, h2⟩
        left
        refine ⟨?_, h2⟩
        rcases Nat.lt_or_ge j n with h | h
        · exact h
        · have : j = n := by omega
          subst this
          rw [c] at h2; exact absurd h2 (by decide)
    · rw [if_neg c, bit_1 n j (by omega) hj, decide_eq_true_eq]
      constructor
      · rintro (h | rfl)
        · exact ⟨by omega, h.2⟩
        · exact ⟨by omega, (rng01 pr ta j).resolve_left c⟩
      · rintro ⟨h1, h2⟩
        rcases Nat.lt_or_ge j n with h | h
        · exact Or.inl ⟨h, h2⟩
        · exact Or.inr (by omega)
/-- ticks that a running thruster fires -/
def ranT (m : Int32) (i : Nat) : Int32 := ((m >>> (nI i &&& 31)) &&& 1) * 20
theorem ran_of (m : Int32) (i : Nat) : f_X2_ranTicks m (nI i) = some (ranT m i) := rfl
theorem ranT_eq {pr ta : Nat → Int32} {N i : Nat} (hN : N ≤ 8) (hi : i < N) : ranT (runM pr ta N) i = if rng pr ta i = 1 then 20 else 0 := by
  unfold ranT
  rw [bit_at _ i (by omega)]
  have h := runM_bit (pr := pr) (ta := ta) N hN i (by omega)
  by_cases c : rng pr ta i = 1
  · rw [if_pos (h.mpr ⟨hi, c⟩), if_pos c]; decide
  · rw [if_neg (fun e => c (h.mp e).2), if_neg c]; decide
/-- whether what fires contains a forbidden set -/
theorem forb_of {se : Nat → Int32} {S : Nat} (hS : S ≤ 8) (all : Int32) : ∃ u, f_X2_forbids se (nI S) all = some u ∧ (u = 0 ∨ u = 1) := by
  obtain ⟨r1, e1, h1⟩ := lp_run (b := f_X2_forbids_b2 se (nI S) all) (fun i s => s = nI i) S (fun r => (r = Sum.inl ()) ∨ (r = Sum.inr ())) (by
    rintro i s hi rfl
    unfold f_X2_forbids_b2
    rcases Nat.lt_or_ge i S with hlt | hge
    · rw [if_neg (nI_ge hlt (by omega)), gd_n (by omega), gd_n (by omega), nI_clamp (by omega)]
      by_cases c : (all &&& se i) = se i
      · rw [if_pos c]; exact Or.inr ⟨_, rfl, Or.inl rfl⟩
      · rw [if_neg c]
        exact Or.inl ⟨hlt, _, rfl, ap1 i⟩
    · have hi : i = S := by omega
      subst hi
      rw [if_pos (nI_le (Nat.le_refl _) (by omega))]
      exact Or.inr ⟨_, rfl, Or.inr rfl⟩) 1000 0 0 (Nat.zero_le _) (by omega) rfl
  unfold f_X2_forbids
  rw [e1, Option.bind_some]
  rcases h1 with rfl | rfl
  · exact ⟨1, rfl, Or.inr rfl⟩
  · exact ⟨0, rfl, Or.inl rfl⟩
theorem isForb_of {pr ta se : Nat → Int32} {N S : Nat} (hC : Cu pr N) (hS : S ≤ 8) {p : Int32} (hp : f_X4_isWithin p 0 255 = some 1) : f_X4_isForbidden pr ta se (nI N) (nI S) p = f_X2_forbids se (nI S) (p ||| runM pr ta N) := by
  unfold f_X4_isForbidden
  rw [hp, run_of hC]
  simp only [n10, ↓reduceIte, Option.bind_some]
  obtain ⟨u, u1, u3⟩ := forb_of (se := se) hS (p ||| runM pr ta N)
  rw [u1]
  simp only [Option.bind_some]
  rcases u3 with rfl | rfl
  · rfl
  · rfl

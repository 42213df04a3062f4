/-! a cycle's pieces, as values -/
theorem pulse_of {sh : Nat → Int64} {de : Int64} {i m : Nat} (hi : i < 8) (hs : 0 ≤ (sh i).toInt ∧ (sh i).toInt ≤ 20 * de.toInt) (hd : 0 < de.toInt ∧ de.toInt ≤ 120000) (hm : m ≤ 10) :
    ∃ w, f_X1_pulseOf sh de (nI i) (nI m) = some (nI w) ∧ w ≤ 20 ∧ (w ≠ 0 → m ≤ w ∧ 0 < (sh i).toInt) := by
  unfold f_X1_pulseOf
  rw [gd_n hi, nI_clamp (by omega)]
  by_cases a : lg_cmp (sh i) 0 ≤ 0
  · rw [if_pos a]; exact ⟨0, rfl, by omega, fun h => absurd rfl h⟩
  · have hs0 : 0 < (sh i).toInt := by
      have : ¬ (sh i).toInt ≤ 0 := fun e => a ((lg_le0 _).mpr e)
      omega
    have z : (0 : Int64).toInt = 0 := by decide
    have t2 : (2 : Int64).toInt = 2 := by decide
    have hde : 0 < lg_cmp de 0 := (lg_gt de 0).mpr (by rw [Int64.lt_iff_toInt_lt, z]; exact hd.1)
    have e2 : (2 * de : Int64).toInt = 2 * de.toInt := by rw [Int64.toInt_mul, t2, bmod64 _ (by omega)]
    have e1 : (2 * sh i + de : Int64).toInt = 2 * (sh i).toInt + de.toInt := by
      have e0 : (2 * sh i : Int64).toInt = 2 * (sh i).toInt := by rw [Int64.toInt_mul, t2, bmod64 _ (by omega)]
      rw [Int64.toInt_add, e0, bmod64 _ (by omega)]
    have hnz : nzl (2 * de) = true := by
      unfold nzl
      refine decide_eq_true (fun e => ?_)
      have := congrArg Int64.toInt e
      rw [e2, z] at this
      omega
    rw [if_neg a, if_pos hde, gd_t hnz]
    obtain ⟨r, hr, hR⟩ : ∃ r : Nat, r ≤ 20 ∧ ((2 * sh i + de) / (2 * de)).toInt32 = nI r := by
      have h1 : 0 ≤ (2 * (sh i).toInt + de.toInt) / (2 * de.toInt) := Int.ediv_nonneg (by omega) (by omega)
      have h2 : (2 * (sh i).toInt + de.toInt) / (2 * de.toInt) < 21 := Int.ediv_lt_of_lt_mul (by omega) (by omega)
      have e3 : ((2 * sh i + de) / (2 * de) : Int64).toInt = (2 * (sh i).toInt + de.toInt) / (2 * de.toInt) := by
        rw [Int64.toInt_div, e1, e2, Int.tdiv_eq_ediv_of_nonneg (by omega), bmod64 _ (by omega)]
      refine ⟨((2 * (sh i).toInt + de.toInt) / (2 * de.toInt)).toNat, by omega, Int32.toInt_inj.mp ?_⟩
      rw [Int64.toInt_toInt32, e3, bmod32 _ (by omega), nI_toInt (by omega)]
      omega
    rw [hR]
    by_cases c : nI r < nI m
    · rw [if_pos c]
      by_cases d : lg_cmp (2 * sh i) ((nI m).toInt64 * de) < 0
      · rw [if_pos d]; exact ⟨0, rfl, by omega, fun h => absurd rfl h⟩
      · rw [if_neg d]; exact ⟨m, rfl, by omega, fun _ => ⟨Nat.le_refl _, hs0⟩⟩
    · rw [if_neg c]
      refine ⟨r, rfl, hr, fun _ => ⟨?_, hs0⟩⟩
      rw [nI_ltI (by omega) (by omega)] at c
      omega
/-- a thruster's pulse -/
def pul (sh : Nat → Int64) (de : Int64) (pr : Nat → Int32) (i : Nat) : Int32 := (f_X1_pulseOf sh de (nI i) (pr (7 * i + 5))).getD 0
/-- what the pulses of a selection are -/
def Shr (pr ta : Nat → Int32) (N : Nat) (sh : Nat → Int64) (de : Int64) : Prop := (0 < de.toInt ∧ de.toInt ≤ 120000) ∧ ∀ k, k < 8 → 0 ≤ (sh k).toInt ∧ (sh k).toInt ≤ 20 * de.toInt ∧ (0 < (sh k).toInt → k < N ∧ usb pr ta k = 1)
theorem pul_of {pr ta : Nat → Int32} {N i : Nat} {sh : Nat → Int64} {de : Int64} (hC : Cu pr N) (hi : i < N) (hS : Shr pr ta N sh de) :
    f_X1_pulseOf sh de (nI i) (pr (7 * i + 5)) = some (pul sh de pr i) ∧ ∃ w m, pul sh de pr i = nI w ∧ w ≤ 20 ∧ pr (7 * i + 5) = nI m ∧ m ≤ 10 ∧ (w ≠ 0 → m ≤ w ∧ 0 < (sh i).toInt) ∧ (w ≠ 0 → usb pr ta i = 1) := by
  have hN := hC.1
  obtain ⟨-, -, -, -, -, ⟨m, m1, m2, e5⟩, -⟩ := hC.2 i hi
  obtain ⟨h1, h2, h3⟩ := hS.2 i (by omega)
  obtain ⟨w, e, hw, hw2⟩ := pulse_of (sh := sh) (de := de) (i := i) (m := m) (by omega) ⟨h1, h2⟩ hS.1 m2
  have hp : pul sh de pr i = nI w := by unfold pul; rw [e5, e]; rfl
  refine ⟨by rw [hp, e5]; exact e, w, m, hp, hw, e5, m2, hw2, fun h => (h3 (hw2 h).2).2⟩
def PuN (sh : Nat → Int64) (de : Int64) (pr pu : Nat → Int32) : Nat → Nat → Int32
  | 0 => pu
  | n + 1 => upd (PuN sh de pr pu n) n (pul sh de pr n)
/-- the set of those whose pulse is above 0 -/
def fmP (f : Nat → Int32) : Nat → Int32
  | 0 => 0
  | n + 1 => fmP f n ||| (if f n ≤ 0 then (0 : Int32) else 1 <<< (nI n &&& 31))
def soM (pr : Nat → Int32) : Nat → Int32
  | 0 => 0
  | n + 1 => soM pr n ||| (if pr (7 * n + 6) = 0 then (1 : Int32) <<< (nI n &&& 31) else 0)
theorem PuN_at {sh : Nat → Int64} {de : Int64} {pr pu : Nat → Int32} : ∀ n i, i < n → PuN sh de pr pu n i = pul sh de pr i := by
  intro n
  induction n with
  | zero => intro i h; omega
  | succ n ih =>
    intro i h
    show upd (PuN sh de pr pu n) n (pul sh de pr n) i = _
    by_cases c : i = n
    · subst c; rw [us]
    · rw [uu c]; exact ih i (by omega)
theorem PuN_z {sh : Nat → Int64} {de : Int64} {pr pu : Nat → Int32} (h : zI 8 pu) : ∀ n, n ≤ 8 → zI 8 (PuN sh de pr pu n) := by
  intro n
  induction n with
  | zero => intro _; exact h
  | succ n ih => intro hn; exact (ih (by omega)).u (by omega) _
theorem fmP_c {f g : Nat → Int32} : ∀ n, (∀ i, i < n → f i = g i) → fmP f n = fmP g n := by
  intro n
  induction n with
  | zero => intro _; rfl
  | succ n ih =>
    intro h
    show fmP f n ||| _ = fmP g n ||| _
    rw [ih (fun i hi => h i (by omega)), h n (by omega)]
theorem fmP_nn {f : Nat → Int32} : ∀ n, n ≤ 8 → (fmP f n).toBitVec.msb = false := by
  intro n
  induction n with
  | zero => intro _; show (0 : Int32).toBitVec.msb = false; decide
  | succ n ih =>
    intro hn
    show (fmP f n ||| _).toBitVec.msb = false
    rw [Int32.toBitVec_or, BitVec.msb_or, ih (by omega), Bool.false_or]
    split
    · decide
    · have : ∀ i, i < 8 → ((1 : Int32) <<< (nI i &&& 31)).toBitVec.msb = false := by decide +kernel
      exact this n (by omega)
theorem fmP_ne {f : Nat → Int32} {n : Nat} (hn : n ≤ 8) : ¬ fmP f n = -2000000000 := fun e => by
  have h := fmP_nn (f := f) n hn
  rw [e] at h
  exact absurd h (by decide)
theorem fmP_0 {f : Nat → Int32} : ∀ n, (∀ i, i < n → f i = 0) → fmP f n = 0 := by
  intro n
  induction n with
  | zero => intro _; rfl
  | succ n ih =>
    intro h
    show fmP f n ||| _ = 0
    rw [ih (fun i hi => h i (by omega)), h n (by omega), if_pos (by decide)]
    decide
theorem sets_ok {pr ta pu : Nat → Int32} {N : Nat} {sh : Nat → Int64} {de : Int64} (hC : Cu pr N) (hS : Shr pr ta N sh de) (so : Int32) :
    f_X2_setPulses sh de pr (nI N) pu so = some (fmP (pul sh de pr) N, PuN sh de pr pu N, soM pr N) := by
  have hN := hC.1
  obtain ⟨r, e, hr⟩ := lp_run (b := f_X2_setPulses_b9 sh de pr (nI N)) (fun i s => s = (PuN sh de pr pu i, soM pr i, fmP (pul sh de pr) i, nI i)) N (fun r => r = (PuN sh de pr pu N, soM pr N, fmP (pul sh de pr) N)) (by
    rintro i s hi rfl
    unfold f_X2_setPulses_b9 f_X2_setPulses_j51 f_X2_setPulses_j75
    rcases Nat.lt_or_ge i N with hlt | hge
    · refine Or.inl ⟨hlt, _, ?_, rfl⟩
      have h5 := prop_of hC hlt 5 (by omega)
      have h6 := prop_of hC hlt 6 (by omega)
      dsimp only
      rw [if_neg (nI_ge hlt (by omega)), show (5 : Int32) = nI 5 from rfl, show (6 : Int32) = nI 6 from rfl, h5, Option.bind_some, (pul_of hC hlt hS).1, Option.bind_some, gd_n (by omega), gd_n (by omega), h6, nI_clamp (by omega), us]
      simp only [Option.bind_some, nI_1]
      show _ = some (Sum.inl (upd (PuN sh de pr pu i) i (pul sh de pr i), soM pr i ||| _, fmP (pul sh de pr) i ||| _, nI (i + 1)))
      by_cases c : pul sh de pr i ≤ 0
      · rw [if_pos c, if_pos c]
        by_cases d : pr (7 * i + 6) = 0
        · rw [if_pos d, if_pos d]
        · rw [if_neg d, if_neg d]
      · rw [if_neg c, if_neg c]
        by_cases d : pr (7 * i + 6) = 0
        · rw [if_pos d, if_pos d]
        · rw [if_neg d, if_neg d]
    · have hi : i = N := by omega
      subst hi
      refine Or.inr ⟨_, ?_, rfl⟩
      dsimp only
      rw [if_pos (nI_le (Nat.le_refl _) (by omega))]) 1000 0 (pu, 0, 0, 0) (Nat.zero_le _) (by omega) rfl
  subst hr
  unfold f_X2_setPulses
  rw [e]; rfl
/-- a sum -/
def sm (f : Nat → Int32) : Nat → Int32
  | 0 => 0
  | n + 1 => sm f n + f n
theorem sm_c {f g : Nat → Int32} : ∀ n, (∀ i, i < n → f i = g i) → sm f n = sm g n := by
  intro n
  induction n with
  | zero => intro _; rfl
  | succ n ih =>
    intro h
    show sm f n + f n = sm g n + g n
    rw [ih (fun i hi => h i (by omega)), h n (by omega)]
theorem sub_sm (x a b : Int32) : x - a - b = x - (a + b) := by grind
def forc (pr : Nat → Int32) (m : Int32) (v : Nat) (N : Nat) : Int32 := sm (fun i => ranT m i * unitP pr i v) N
def chos (pr pu : Nat → Int32) (v : Nat) (N : Nat) : Int32 := sm (fun i => pu i * unitP pr i v) N
theorem part_of (im : Nat → Int32) (w v : Nat) (h : 3 * w + v < 9) : f_X2_impulsePart im (nI w) (nI v) = some (im (3 * w + v)) := by
  unfold f_X2_impulsePart
  rw [ix3, gd_n h, nI_clamp (by omega)]
theorem take_sum {pr : Nat → Int32} {N : Nat} (hC : Cu pr N) (m : Int32) (v : Nat) (hv : v < 3) (x : Int32) : lp (f_X2_takeTarget_b35 pr (nI N) m (nI v)) 1000 (x, 0) = some (x - forc pr m v N) := by
  have hN := hC.1
  obtain ⟨r, e, hr⟩ := lp_run (b := f_X2_takeTarget_b35 pr (nI N) m (nI v)) (fun i s => s = (x - forc pr m v i, nI i)) N (fun r => r = x - forc pr m v N) (by
    rintro i s hi rfl
    unfold f_X2_takeTarget_b35
    rcases Nat.lt_or_ge i N with hlt | hge
    · refine Or.inl ⟨hlt, _, ?_, rfl⟩
      dsimp only
      rw [if_neg (nI_ge hlt (by omega)), ran_of, Option.bind_some, unit_of hC hlt v hv, Option.bind_some, nI_1, sub_sm]
      rfl
    · have hi : i = N := by omega
      subst hi
      refine Or.inr ⟨_, ?_, rfl⟩
      dsimp only
      rw [if_pos (nI_le (Nat.le_refl _) (by omega))]) 1000 0 (x, 0) (Nat.zero_le _) (by omega) (by
        show (x, (0 : Int32)) = (x - 0, nI 0)
        rw [show x - 0 = x from by grind]; rfl)
  subst hr
  exact e
/-- the first request removed, and any other -/
theorem rem_of {qu : Nat → Int32} {Q i : Nat} (hQ : Q ≤ 10) (hi : i < Q) (hz : zI 30 qu) : ∃ qu', f_X2_removeRequest qu (nI Q) (nI i) = some (qu', nI (Q - 1)) ∧ zI 30 qu' := by
  have e1 : (nI i + 1) * 3 = nI (3 * (i + 1)) := by rw [nI_1, i3r]
  have e2 : nI i * 3 = nI (3 * i) := i3r i
  have e3 : nI Q * 3 - nI (3 * (i + 1)) = nI (3 * Q - 3 * (i + 1)) := by rw [i3r]; exact pk_sub (by omega)
  have hc : cpk (nI (3 * (i + 1))) (nI (3 * i)) (nI (3 * Q - 3 * (i + 1))) 30 30 = true := by
    unfold cpk
    refine decide_eq_true ⟨nI_pos (by omega), nI_pos (by omega), nI_pos (by omega), ?_, ?_⟩
    · rw [nI_clamp (by omega), nI_clamp (by omega)]; omega
    · rw [nI_clamp (by omega), nI_clamp (by omega)]; omega
  unfold f_X2_removeRequest
  rw [e1, e2, e3, gd_t hc, am1 Q (by omega)]
  refine ⟨_, rfl, fun k hk => ?_⟩
  rw [nI_clamp (by omega), nI_clamp (by omega), nI_clamp (by omega), pk_cpy_out (Or.inr (by omega))]
  exact hz k hk
/-- a part of the target, ahead of what the running ones give -/
def due (im qu : Nat → Int32) (Q v : Nat) : Int32 := im v + (if Q = 0 then 0 else qu v)
def IMt (pr im qu : Nat → Int32) (Q N : Nat) (m : Int32) : Nat → Nat → Int32
  | 0 => im
  | n + 1 => upd (IMt pr im qu Q N m n) (6 + n) (due im qu Q n - forc pr m n N)
theorem IMt_lo {pr im qu : Nat → Int32} {Q N : Nat} {m : Int32} : ∀ n k, k < 6 → IMt pr im qu Q N m n k = im k := by
  intro n
  induction n with
  | zero => intro k _; rfl
  | succ n ih => intro k hk; show upd _ _ _ k = _; rw [uu (by omega)]; exact ih k hk
theorem take_ok {pr im qu : Nat → Int32} {N Q : Nat} (hC : Cu pr N) (hQ : Q ≤ 10) (hz : zI 30 qu) (m : Int32) :
    ∃ qu', f_X2_takeTarget pr (nI N) qu im (nI Q) m = some (qu', IMt pr im qu Q N m 3, nI (Q - 1)) ∧ zI 30 qu' := by
  have hN := hC.1
  have z0 : nI Q ≤ 0 ↔ Q = 0 := by
    rw [show (0 : Int32) = nI 0 from rfl, nI_leI (by omega) (by omega)]; omega
  obtain ⟨r, e, hr⟩ := lp_run (b := f_X2_takeTarget_b2 pr (nI N) qu (nI Q) m) (fun i s => s = (IMt pr im qu Q N m i, nI i)) 3 (fun r => r = IMt pr im qu Q N m 3) (by
    rintro i s hi rfl
    unfold f_X2_takeTarget_b2 f_X2_takeTarget_j30
    rcases Nat.lt_or_ge i 3 with hlt | hge
    · refine Or.inl ⟨hlt, _, ?_, rfl⟩
      have hp := part_of (IMt pr im qu Q N m i) 0 i (by omega)
      rw [show 3 * 0 + i = i by omega, IMt_lo i i (by omega)] at hp
      dsimp only
      rw [if_neg (show ¬ (3 : Int32) ≤ nI i from nI_ge (b := 3) hlt (by omega)), show (0 : Int32) = nI 0 from rfl, hp, Option.bind_some]
      have e6 : (6 : Int32) + nI i = nI (6 + i) := nI_add 6 i
      by_cases c : Q = 0
      · rw [if_pos (show nI Q ≤ nI 0 from z0.mpr c), show nI 0 = (0 : Int32) from rfl, take_sum hC m i hlt, Option.bind_some, e6, gd_n (by omega), nI_clamp (by omega), nI_1]
        show some (Sum.inl (upd _ (6 + i) (im i + 0 - forc pr m i N), _)) = some (Sum.inl (upd _ (6 + i) (due im qu Q i - forc pr m i N), _))
        unfold due
        rw [if_pos c]
      · rw [if_neg (show ¬ nI Q ≤ nI 0 from fun h => c (z0.mp h)), gd_n (by omega), show nI 0 = (0 : Int32) from rfl, take_sum hC m i hlt, Option.bind_some, e6, gd_n (by omega), nI_clamp (by omega), nI_clamp (by omega), nI_1]
        show some (Sum.inl (upd _ (6 + i) (im i + qu i - forc pr m i N), _)) = some (Sum.inl (upd _ (6 + i) (due im qu Q i - forc pr m i N), _))
        unfold due
        rw [if_neg c]
    · have hi : i = 3 := by omega
      subst hi
      refine Or.inr ⟨_, ?_, rfl⟩
      dsimp only
      rw [if_pos (show (3 : Int32) ≤ nI 3 by decide)]) 1000 0 (im, 0) (Nat.zero_le _) (by omega) rfl
  subst hr
  unfold f_X2_takeTarget
  rw [e, Option.bind_some]
  by_cases c : Q = 0
  · rw [if_pos (z0.mpr c)]
    subst c
    exact ⟨qu, rfl, hz⟩
  · rw [if_neg (fun h => c (z0.mp h))]
    obtain ⟨qu', e2, hz'⟩ := rem_of hQ (show 0 < Q by omega) hz
    rw [show (0 : Int32) = nI 0 from rfl, e2]
    exact ⟨qu', rfl, hz'⟩
/-- held within -4000 and 4000 -/
def hold (x : Int32) : Int32 := if (-4000) < (if x < 4000 then x else 4000) then (if x < 4000 then x else 4000) else (-4000)
theorem give_sum {pr pu : Nat → Int32} {N : Nat} (hC : Cu pr N) (m : Int32) (v : Nat) (hv : v < 3) : lp (f_X2_deliver_b15 pr pu (nI N) m (nI v)) 1000 (0, 0, 0) = some (chos pr pu v N, forc pr m v N) := by
  have hN := hC.1
  obtain ⟨r, e, hr⟩ := lp_run (b := f_X2_deliver_b15 pr pu (nI N) m (nI v)) (fun i s => s = (chos pr pu v i, forc pr m v i, nI i)) N (fun r => r = (chos pr pu v N, forc pr m v N)) (by
    rintro i s hi rfl
    unfold f_X2_deliver_b15
    rcases Nat.lt_or_ge i N with hlt | hge
    · refine Or.inl ⟨hlt, _, ?_, rfl⟩
      dsimp only
      rw [if_neg (nI_ge hlt (by omega)), gd_n (by omega), unit_of hC hlt v hv, Option.bind_some, ran_of, Option.bind_some, Option.bind_some, nI_clamp (by omega), nI_1]
      rfl
    · have hi : i = N := by omega
      subst hi
      refine Or.inr ⟨_, ?_, rfl⟩
      dsimp only
      rw [if_pos (nI_le (Nat.le_refl _) (by omega))]) 1000 0 (0, 0, 0) (Nat.zero_le _) (by omega) rfl
  subst hr
  exact e
def GV (pr pu : Nat → Int32) (m : Int32) (N : Nat) (im : Nat → Int32) (su : Nat → Int64) : Nat → (Nat → Int32) × (Nat → Int64)
  | 0 => (im, su)
  | n + 1 => (upd (upd (GV pr pu m N im su n).1 n (hold ((GV pr pu m N im su n).1 (6 + n) - chos pr pu n N))) (3 + n) (chos pr pu n N + forc pr m n N), vp_updL (GV pr pu m N im su n).2 n ((GV pr pu m N im su n).2 n + (chos pr pu n N + forc pr m n N).toInt64))
theorem give_ok {pr pu im : Nat → Int32} {su : Nat → Int64} {N : Nat} (hC : Cu pr N) (m : Int32) : f_X2_deliver pr pu (nI N) im su m = some ((GV pr pu m N im su 3).1, (GV pr pu m N im su 3).2) := by
  obtain ⟨r, e, hr⟩ := lp_run (b := f_X2_deliver_b2 pr pu (nI N) m) (fun i s => s = ((GV pr pu m N im su i).1, (GV pr pu m N im su i).2, nI i)) 3 (fun r => r = ((GV pr pu m N im su 3).1, (GV pr pu m N im su 3).2)) (by
    rintro i s hi rfl
    unfold f_X2_deliver_b2
    rcases Nat.lt_or_ge i 3 with hlt | hge
    · refine Or.inl ⟨hlt, _, ?_, rfl⟩
      have hp := part_of (GV pr pu m N im su i).1 2 i (by omega)
      have e0 : (0 : Int32) + nI i = nI i := by rw [show (0 : Int32) = nI 0 from rfl, nI_add, Nat.zero_add]
      have e3 : (3 : Int32) + nI i = nI (3 + i) := nI_add 3 i
      dsimp only
      rw [if_neg (show ¬ (3 : Int32) ≤ nI i from nI_ge (b := 3) hlt (by omega)), give_sum hC m i hlt, Option.bind_some, show (2 : Int32) = nI 2 from rfl, hp, Option.bind_some, e0, e3, gd_n (by omega), gd_n (by omega), gd_n (by omega), gd_n (by omega), nI_clamp (by omega), nI_clamp (by omega), nI_1]
      rfl
    · have hi : i = 3 := by omega
      subst hi
      refine Or.inr ⟨_, ?_, rfl⟩
      dsimp only
      rw [if_pos (show (3 : Int32) ≤ nI 3 by decide)]) 1000 0 (im, su, 0) (Nat.zero_le _) (by omega) rfl
  subst hr
  unfold f_X2_deliver
  rw [e]; rfl
/-- what is behind the giving -/
theorem GV_at (pr pu : Nat → Int32) (m : Int32) (N : Nat) (im : Nat → Int32) (su : Nat → Int64) : ∀ v, v < 3 → (GV pr pu m N im su 3).1 v = hold (im (6 + v) - chos pr pu v N) ∧ (GV pr pu m N im su 3).1 (3 + v) = chos pr pu v N + forc pr m v N ∧ (GV pr pu m N im su 3).1 (6 + v) = im (6 + v) := by
  intro v hv
  match v, hv with
  | 0, _ => refine ⟨?_, ?_, ?_⟩ <;> simp [GV, upd]
  | 1, _ => refine ⟨?_, ?_, ?_⟩ <;> simp [GV, upd]
  | 2, _ => refine ⟨?_, ?_, ?_⟩ <;> simp [GV, upd]
theorem GV_su (pr pu : Nat → Int32) (m : Int32) (N : Nat) (im : Nat → Int32) (su : Nat → Int64) : (GV pr pu m N im su 3).2 1 = su 1 + (chos pr pu 1 N + forc pr m 1 N).toInt64 := by
  simp [GV, vp_updL]
theorem GV_z {pr pu : Nat → Int32} {m : Int32} {N : Nat} {im : Nat → Int32} {su : Nat → Int64} (hi : zI 9 im) (hs : zL 3 su) : ∀ n, n ≤ 3 → zI 9 (GV pr pu m N im su n).1 ∧ zL 3 (GV pr pu m N im su n).2 := by
  intro n
  induction n with
  | zero => intro _; exact ⟨hi, hs⟩
  | succ n ih => intro hn; exact ⟨((ih (by omega)).1.u (by omega) _).u (by omega) _, (ih (by omega)).2.u (by omega) _⟩
theorem IMt_z {pr im qu : Nat → Int32} {Q N : Nat} {m : Int32} (h : zI 9 im) : ∀ n, n ≤ 3 → zI 9 (IMt pr im qu Q N m n) := by
  intro n
  induction n with
  | zero => intro _; exact h
  | succ n ih => intro hn; exact (ih (by omega)).u (by omega) _
theorem IMt_at (pr im qu : Nat → Int32) (Q N : Nat) (m : Int32) : ∀ v, v < 3 → IMt pr im qu Q N m 3 (6 + v) = due im qu Q v - forc pr m v N := by
  intro v hv
  match v, hv with
  | 0, _ => simp [IMt, upd]
  | 1, _ => simp [IMt, upd]
  | 2, _ => simp [IMt, upd]
def mx0 (x : Int32) : Int32 := if 0 < x then x else 0
def BU (pr pu : Nat → Int32) (m : Int32) (ta : Nat → Int32) : Nat → Nat → Int32
  | 0 => ta
  | n + 1 => upd (BU pr pu m ta n) (tnk pr n) (mx0 (BU pr pu m ta n (tnk pr n) - (pu n + ranT m n) * pr (7 * n + 3)))
theorem burn_ok {pr pu ta : Nat → Int32} {N : Nat} (hC : Cu pr N) (m : Int32) : f_X2_burn pr pu (nI N) ta m = some (BU pr pu m ta N) := by
  have hN := hC.1
  obtain ⟨r, e, hr⟩ := lp_run (b := f_X2_burn_b2 pr pu (nI N) m) (fun i s => s = (BU pr pu m ta i, nI i)) N (fun r => r = BU pr pu m ta N) (by
    rintro i s hi rfl
    unfold f_X2_burn_b2
    rcases Nat.lt_or_ge i N with hlt | hge
    · refine Or.inl ⟨hlt, _, ?_, rfl⟩
      have h3 := prop_of hC hlt 3 (by omega)
      have h4 := prop_of hC hlt 4 (by omega)
      have hf := fuel_of (ta := BU pr pu m ta i) hC hlt
      obtain ⟨ht, e4⟩ := tnk_of hC hlt
      dsimp only
      rw [if_neg (nI_ge hlt (by omega)), gd_n (by omega), ran_of, Option.bind_some, show (3 : Int32) = nI 3 from rfl, h3, Option.bind_some, show (4 : Int32) = nI 4 from rfl, h4, Option.bind_some, hf, Option.bind_some, e4, gd_n ht, nI_clamp (by omega), nI_clamp (by omega), nI_1]
      rfl
    · have hi : i = N := by omega
      subst hi
      refine Or.inr ⟨_, ?_, rfl⟩
      dsimp only
      rw [if_pos (nI_le (Nat.le_refl _) (by omega))]) 1000 0 (ta, 0) (Nat.zero_le _) (by omega) rfl
  subst hr
  unfold f_X2_burn
  rw [e]; rfl
theorem BU_z {pr pu ta : Nat → Int32} {N : Nat} {m : Int32} (hC : Cu pr N) (h : zI 2 ta) : ∀ n, n ≤ N → zI 2 (BU pr pu m ta n) := by
  intro n
  induction n with
  | zero => intro _; exact h
  | succ n ih => intro hn; exact (ih (by omega)).u (tnk_of hC (by omega)).1 _

/-! a cycle is sound -/
theorem shl0 : ∀ i, i < 8 → ((0 : Int32) <<< (nI i &&& 31)) = 0 := by decide +kernel
theorem b26_ok {pr ta : Nat → Int32} {N : Nat} (hC : Cu pr N) : lp (f_L_isCycleSound_b26 pr (nI N) ta) 1000 (0, 0, 0) = some (runM pr ta N, nI (stN pr N)) := by
  have hN := hC.1
  obtain ⟨r, e, hr⟩ := lp_run (b := f_L_isCycleSound_b26 pr (nI N) ta) (fun i s => s = (runM pr ta i, nI (stN pr i), nI i)) N (fun r => r = (runM pr ta N, nI (stN pr N))) (by
    rintro i s hi rfl
    unfold f_L_isCycleSound_b26
    dsimp only
    rw [show f_X4_thrusters (nI N) = some (nI N) from rfl, Option.bind_some]
    rcases Nat.lt_or_ge i N with hlt | hge
    · refine Or.inl ⟨hlt, _, ?_, rfl⟩
      obtain ⟨-, -, -, ⟨f, f1, f2, e3⟩, -⟩ := hC.2 i hlt
      have h3 := thruster_p (ta := ta) hC hlt 3 (by omega)
      rw [if_neg (nI_ge hlt (by omega)), thruster_r hC hlt, Option.bind_some, show (3 : Int32) = nI 3 from rfl, h3, Option.bind_some, nI_1]
      have e1 : runM pr ta i ||| (rng pr ta i <<< (nI i &&& 31)) = runM pr ta (i + 1) := by
        show _ = runM pr ta i ||| (if rng pr ta i = 0 then (0 : Int32) else (1 : Int32) <<< (nI i &&& 31))
        rcases rng01 pr ta i with h | h
        · rw [h, if_pos rfl, shl0 i (by omega)]
        · rw [h, if_neg (by decide)]
      have e2 : nI (stN pr i) + pr (7 * i + 3) = nI (stN pr (i + 1)) := by
        show _ = nI (stN pr i + (pr (7 * i + 3)).toNatClampNeg)
        rw [e3, nI_add, nI_clamp (by omega)]
      rw [e1, e2]
    · have hi : i = N := by omega
      subst hi
      refine Or.inr ⟨_, ?_, rfl⟩
      rw [if_pos (nI_le (Nat.le_refl _) (by omega))]) 1000 0 (0, 0, 0) (Nat.zero_le _) (by omega) rfl
  subst hr
  exact e
theorem b174_ok {pu : Nat → Int32} {N : Nat} (hN : N ≤ 8) : lp (f_L_isCycleSound_b174 (nI N) pu) 1000 (0, 0) = some (fmP pu N) := by
  obtain ⟨r, e, hr⟩ := lp_run (b := f_L_isCycleSound_b174 (nI N) pu) (fun i s => s = (fmP pu i, nI i)) N (fun r => r = fmP pu N) (by
    rintro i s hi rfl
    unfold f_L_isCycleSound_b174 f_L_isCycleSound_j202
    dsimp only
    rw [show f_X4_thrusters (nI N) = some (nI N) from rfl, Option.bind_some]
    rcases Nat.lt_or_ge i N with hlt | hge
    · refine Or.inl ⟨hlt, _, ?_, rfl⟩
      rw [if_neg (nI_ge hlt (by omega)), fired_g hN hlt, Option.bind_some, nI_1]
      show _ = some (Sum.inl (fmP pu i ||| (if pu i ≤ 0 then (0 : Int32) else 1 <<< (nI i &&& 31)), nI (i + 1)))
      by_cases c : pu i ≤ 0
      · rw [if_pos c, if_pos c]
      · rw [if_neg c, if_neg c]
    · have hi : i = N := by omega
      subst hi
      refine Or.inr ⟨_, ?_, rfl⟩
      rw [if_pos (nI_le (Nat.le_refl _) (by omega))]) 1000 0 (0, 0) (Nat.zero_le _) (by omega) rfl
  subst hr
  exact e
theorem b311_ok {pr pu : Nat → Int32} {N : Nat} (hC : Cu pr N) (m : Int32) {v : Nat} (hv : v < 3) : lp (f_L_isCycleSound_b311 pr (nI N) pu m (nI v)) 1000 (0, 0, 0) = some (chos pr pu v N, forc pr m v N) := by
  have hN := hC.1
  obtain ⟨r, e, hr⟩ := lp_run (b := f_L_isCycleSound_b311 pr (nI N) pu m (nI v)) (fun i s => s = (chos pr pu v i, forc pr m v i, nI i)) N (fun r => r = (chos pr pu v N, forc pr m v N)) (by
    rintro i s hi rfl
    unfold f_L_isCycleSound_b311
    dsimp only
    rw [show f_X4_thrusters (nI N) = some (nI N) from rfl, Option.bind_some]
    rcases Nat.lt_or_ge i N with hlt | hge
    · refine Or.inl ⟨hlt, _, ?_, rfl⟩
      rw [if_neg (nI_ge hlt (by omega)), fired_g hN hlt, Option.bind_some, unit_g hC hlt hv, Option.bind_some, Option.bind_some, nI_1]
      have e1 : (20 : Int32) * ((m >>> (nI i &&& 31)) &&& 1) = ranT m i := by unfold ranT; exact Int32.mul_comm _ _
      rw [e1]
      rfl
    · have hi : i = N := by omega
      subst hi
      refine Or.inr ⟨_, ?_, rfl⟩
      rw [if_pos (nI_le (Nat.le_refl _) (by omega))]) 1000 0 (0, 0, 0) (Nat.zero_le _) (by omega) rfl
  subst hr
  exact e
theorem hold_of (x : Int32) : ¬ hold x < -4000 ∧ hold x ≤ 4000 ∧ (hold x = 4000 ∨ hold x = -4000 ∨ hold x = x) := by
  unfold hold
  have e1 : (4000 : Int32).toInt = 4000 := by decide
  have e2 : (-4000 : Int32).toInt = -4000 := by decide
  by_cases c : x < 4000
  · rw [if_pos c]
    by_cases d : -4000 < x
    · rw [if_pos d]
      rw [Int32.lt_iff_toInt_lt, Int32.le_iff_toInt_le, e1, e2]
      rw [Int32.lt_iff_toInt_lt, e1] at c
      rw [Int32.lt_iff_toInt_lt, e2] at d
      exact ⟨by omega, by omega, .inr (.inr rfl)⟩
    · rw [if_neg d]
      exact ⟨by decide, by decide, .inr (.inl rfl)⟩
  · rw [if_neg c, if_pos (by decide)]
    exact ⟨by decide, by decide, .inl rfl⟩
theorem isEnd_of (x : Int32) : (f_L_isEnd x = some 1 ∧ (x = 4000 ∨ x = -4000)) ∨ (f_L_isEnd x = some 0 ∧ ¬ x = 4000 ∧ ¬ x = -4000) := by
  unfold f_L_isEnd
  by_cases c : x = 4000
  · rw [if_pos c]; exact .inl ⟨rfl, .inl c⟩
  · rw [if_neg c]
    by_cases d : x = -4000
    · rw [if_pos d]; exact .inl ⟨rfl, .inr d⟩
    · rw [if_neg d]; exact .inr ⟨rfl, c, d⟩
theorem ring1 (t s f : Int32) : (t - f - s) + (s + f) = t := by grind
theorem j300_ok {pr pu im : Nat → Int32} {N v : Nat} {m d : Int32} (hC : Cu pr N) (hv : v < 3) (h0 : im v = hold (im (6 + v) - chos pr pu v N)) (h1 : im (3 + v) = chos pr pu v N + forc pr m v N) (h2 : im (6 + v) = d - forc pr m v N) :
    f_L_isCycleSound_j300 pr pu im (nI N) m (nI v) d = some (Sum.inl (nI (v + 1))) := by
  unfold f_L_isCycleSound_j300
  have i0 := impulse_g (im := im) (w := 0) (show 0 < 3 by decide) hv
  have i1 := impulse_g (im := im) (w := 1) (show 1 < 3 by decide) hv
  have i2 := impulse_g (im := im) (w := 2) (show 2 < 3 by decide) hv
  rw [show 3 * 0 + v = v by omega] at i0
  rw [show 3 * 1 + v = 3 + v by omega] at i1
  rw [show 3 * 2 + v = 6 + v by omega] at i2
  obtain ⟨k1, k2, k3⟩ := hold_of (im (6 + v) - chos pr pu v N)
  rw [← h0] at k1 k2 k3
  rw [b311_ok hC m hv, Option.bind_some, show (0 : Int32) = nI 0 from rfl, i0, Option.bind_some, show (1 : Int32) = nI 1 from rfl, i1, Option.bind_some, if_pos h1, show (2 : Int32) = nI 2 from rfl, i2, Option.bind_some, if_pos h2, if_neg k1, if_pos k2]
  rcases isEnd_of (im v) with ⟨e, -⟩ | ⟨e, n1, n2⟩
  · rw [e, Option.bind_some, if_neg (by decide)]
    exact congrArg (fun z => some (Sum.inl z)) (nI_add v 1)
  · have hx := (k3.resolve_left n1).resolve_left n2
    rw [e, Option.bind_some, if_pos (show (0 : Int32) = nI 0 from rfl), Option.bind_some, if_pos (show im v + im (3 + v) = d from by rw [hx, h1, h2]; exact ring1 _ _ _), Option.bind_some, if_pos hx.symm]
    exact congrArg (fun z => some (Sum.inl z)) (nI_add v 1)
theorem b271_ok {pr pu im : Nat → Int32} {N : Nat} {m : Int32} {d : Nat → Int32} (hC : Cu pr N) (h : ∀ v, v < 3 → im v = hold (im (6 + v) - chos pr pu v N) ∧ im (3 + v) = chos pr pu v N + forc pr m v N ∧ im (6 + v) = d v - forc pr m v N) :
    lp (f_L_isCycleSound_b271 pr (nI N) pu im m (d 0) (d 1) (d 2)) 1000 0 = some () := by
  obtain ⟨r, e, hr⟩ := lp_run (b := f_L_isCycleSound_b271 pr (nI N) pu im m (d 0) (d 1) (d 2)) (fun i s => s = nI i) 3 (fun _ => True) (by
    rintro i s hi rfl
    unfold f_L_isCycleSound_b271
    rcases Nat.lt_or_ge i 3 with hlt | hge
    · refine Or.inl ⟨hlt, nI (i + 1), ?_, rfl⟩
      obtain ⟨a, b, c⟩ := h i hlt
      have hj := j300_ok hC hlt a b c
      rw [if_neg (show ¬ (3 : Int32) ≤ nI i from nI_ge (b := 3) hlt (by omega))]
      match i, hlt with
      | 0, _ => rw [if_pos (show nI 0 = 0 from rfl)]; exact hj
      | 1, _ => rw [if_neg (show ¬ nI 1 = 0 by decide), if_pos (show nI 1 = 1 from rfl)]; exact hj
      | 2, _ => rw [if_neg (show ¬ nI 2 = 0 by decide), if_neg (show ¬ nI 2 = 1 by decide)]; exact hj
    · have hi : i = 3 := by omega
      subst hi
      exact Or.inr ⟨(), by rw [if_pos (show (3 : Int32) ≤ nI 3 by decide)], trivial⟩) 1000 0 0 (Nat.zero_le _) (by omega) rfl
  exact e
theorem susp_0 {pr pu im : Nat → Int32} {tc : Int32} {C : Nat} {so : Int32} (hC : 0 < C ∧ C < 2 ^ 31) (h : ∀ v, v < 3 → bs (im (3 + v)) 64000) : f_X4_suspect pr pu im tc (nI C) so (im 3) (im 4) (im 5) = some 0 := by
  have e1 : (-(1000000 : Int32)).toInt = -1000000 := by decide
  have e2 : (1000000 : Int32).toInt = 1000000 := by decide
  have b0 : (im 3).toInt.natAbs ≤ 64000 := h 0 (by decide)
  have b1 : (im 4).toInt.natAbs ≤ 64000 := h 1 (by decide)
  have b2 : (im 5).toInt.natAbs ≤ 64000 := h 2 (by decide)
  have s0 : ∀ x : Int32, x - x = 0 := fun x => by grind
  unfold f_X4_suspect
  rw [areAt1 (by rw [e1, e2]; omega) (by rw [e1, e2]; omega) (by rw [e1, e2]; omega), Option.bind_some, if_neg (by decide), if_neg (show ¬ nI C = 0 from fun e => by have := nI_inj (b := 0) (by omega) (by omega) e; omega)]
  rw [show (0 : Int32) = nI 0 from rfl, show (1 : Int32) = nI 1 from rfl, show (2 : Int32) = nI 2 from rfl, part_of im 1 0 (by decide), Option.bind_some, part_of im 1 1 (by decide), Option.bind_some, part_of im 1 2 (by decide), Option.bind_some]
  rw [if_pos (show im 3 - im (3 * 1 + 0) = nI 0 from s0 _), if_pos (show im 4 - im (3 * 1 + 1) = nI 0 from s0 _), if_pos (show im 5 - im (3 * 1 + 2) = nI 0 from s0 _)]
theorem cycle_g {N S Q C : Nat} {pr pu ta se qu im : Nat → Int32} {su : Nat → Int64} {so : Int32} {hs : Nat → SV} {ol ct : Int32} (hK : OKs N S Q C pr pu ta se qu im su so) (hH : Hi hs ol ct) :
    ∃ r pu' ta' qu' im' su' so' hs' ol' ct', CycP pr ta qu im su N Q r pu' ta' im' su' ∧ (C + 1 < 2 ^ 30 → OKs N S (Q - 1) (C + 1) pr pu' ta' se qu' im' su' so') ∧ Hi hs' ol' ct' ∧
      ∀ un tp sh de co ma ru fo, zL 8 sh → ∃ un' tp' sh' de' co' ma' ru' fo', zL 8 sh' ∧ f_X4_cycle pr se (nI N) (nI S) un tp sh de co ma ru fo pu ta qu im su (nI Q) (nI C) so hs ol ct = some (r, un', tp', sh', de', co', ma', ru', fo', pu', ta', qu', im', su', nI (Q - 1), nI (C + 1), so', hs', ol', ct') := by
  obtain ⟨r, pu', ta', qu', im', su', so', h1, h2, h3⟩ := run_cyc hK
  obtain ⟨hs', ol', ct', k1, k2⟩ := keep_ok hH hK.2.2.2.2.2
  refine ⟨r, pu', ta', qu', im', su', so', hs', ol', ct', h1, h2, k2.hi, fun un tp sh de co ma ru fo hz => ?_⟩
  obtain ⟨un', tp', sh', de', co', ma', ru', fo', z, e⟩ := h3 un tp sh de co ma ru fo hz
  refine ⟨un', tp', sh', de', co', ma', ru', fo', z, ?_⟩
  unfold f_X4_cycle
  rw [k1, Option.bind_some, e]
  rfl
abbrev T20 : Type := Int32 × (Nat → Nat → Int32) × (Nat → Int32) × (Nat → Int64) × Int64 × Int64 × Int32 × Int32 × Int32 × (Nat → Int32) × (Nat → Int32) × (Nat → Int32) × (Nat → Int32) × (Nat → Int64) × Int32 × Int32 × Int32 × (Nat → SV) × Int32 × Int32
def SndC (N S C : Nat) (pr se : Nat → Int32) (x : Option T20) : Prop :=
  ∃ un tp sh de co ma ru fo pu ta qu im su Q so hs ol ct, x = some (1, un, tp, sh, de, co, ma, ru, fo, pu, ta, qu, im, su, nI Q, nI C, so, hs, ol, ct) ∧ zL 8 sh ∧ OKs N S Q C pr pu ta se qu im su so ∧ Hi hs ol ct
theorem add_2 {a b : Int32} (ha : 0 ≤ a.toInt ∧ a.toInt ≤ 100000) (hb : 0 ≤ b.toInt ∧ b.toInt ≤ 100000) : (a + b).toInt = a.toInt + b.toInt := by
  rw [Int32.toInt_add, bmod32 _ (by omega)]
theorem cyc_sound {N S Q C : Nat} {pr pu ta se qu im : Nat → Int32} {su : Nat → Int64} {so : Int32} {hs : Nat → SV} {ol ct : Int32} (hK : OKs N S Q C pr pu ta se qu im su so) (hC1 : C + 1 < 2 ^ 30) (hH : Hi hs ol ct)
    (un : Nat → Nat → Int32) (tp : Nat → Int32) (sh : Nat → Int64) (de co : Int64) (ma ru fo : Int32) (hz : zL 8 sh) :
    SndC N S (C + 1) pr se (f_L_isCycleSound pr se (nI N) (nI S) un tp sh de co ma ru fo pu ta qu im su (nI Q) (nI C) so hs ol ct) := by
  obtain ⟨r, pu', ta', qu', im', su', so', hs', ol', ct', ⟨c1, c2, c3, c4, c5⟩, hK', hH', hcy⟩ := cycle_g hK hH
  replace hK' := hK' hC1
  obtain ⟨hC, hS, hQ, hCn, hT, hZ⟩ := id hK
  have hN := hC.1
  have hT' := hK'.2.2.2.2.1
  obtain ⟨un', tp', sh', de', co', ma', ru', fo', hz', ec⟩ := hcy un tp sh de co ma ru fo hz
  have hm3 : ∀ v, v < 3 → im' v = hold (im' (6 + v) - chos pr pu' v N) ∧ im' (3 + v) = chos pr pu' v N + forc pr (runM pr ta N) v N ∧ im' (6 + v) = due im qu Q v - forc pr (runM pr ta N) v N := fun v hv => ⟨(c2 v hv).1, (c2 v hv).2.1, (c2 v hv).2.2.1⟩
  have hst : stN pr N ≤ 80 := by have := stN_bd hC N (Nat.le_refl _); omega
  have f0 := hT 0 (by decide)
  have f1 := hT 1 (by decide)
  have g0 := hT' 0 (by decide)
  have g1 := hT' 1 (by decide)
  unfold tot2 at c4 c5
  have z0 : (0 : Int32).toInt = 0 := by decide
  have j252 : ∀ t, SndC N S (C + 1) pr se (f_L_isCycleSound_j252 un' tp' sh' de' co' ma' ru' fo' pr pu' ta' qu' im' su' (nI N) (nI (Q - 1)) (nI (C + 1)) so' hs' ol' ct' (runM pr ta N) (nI (stN pr N)) (due im qu Q 0) (due im qu Q 1) (due im qu Q 2) (su 1) (ta 0 + ta 1) (nI C) t t) := by
    intro t
    unfold f_L_isCycleSound_j252
    rw [if_pos rfl, show f_X4_cycleCount (nI (C + 1)) = some (nI (C + 1)) from rfl, Option.bind_some, if_pos (show nI (C + 1) = nI C + 1 from (nI_add C 1).symm), b271_ok hC hm3, Option.bind_some]
    rw [show (0 : Int32) = nI 0 from rfl, show (1 : Int32) = nI 1 from rfl, show (2 : Int32) = nI 2 from rfl, fuel_g (by decide), Option.bind_some, fuel_g (by decide), Option.bind_some, total_g (by decide), Option.bind_some, impulse_g (by decide) (by decide), Option.bind_some]
    rw [if_pos (show lg_cmp (su' 1) (su 1 + (im' (3 * 1 + 1)).toInt64) = nI 0 from (lg_eq0 _ _).mpr c3)]
    rw [if_neg (show ¬ ta 0 + ta 1 < ta' 0 + ta' 1 from by rw [Int32.lt_iff_toInt_lt, add_2 f0 f1, add_2 g0 g1]; omega)]
    rw [if_neg (show ¬ ta' 0 + ta' 1 < ta 0 + ta 1 - 20 * nI (stN pr N) from by
      rw [Int32.lt_iff_toInt_lt, add_2 g0 g1, show (20 : Int32) = nI 20 from rfl, pk_mul, Int32.toInt_sub, add_2 f0 f1, nI_toInt (by omega), bmod32 _ (by omega)]
      push_cast
      omega)]
    rw [Option.bind_some, if_neg (show ¬ ta' 0 < nI 0 from by rw [Int32.lt_iff_toInt_lt]; show ¬ _ < (0 : Int32).toInt; rw [z0]; omega), Option.bind_some, if_neg (show ¬ ta' 1 < nI 0 from by rw [Int32.lt_iff_toInt_lt]; show ¬ _ < (0 : Int32).toInt; rw [z0]; omega)]
    rw [impulse_g (by decide) (by decide), Option.bind_some, Option.bind_some, impulse_g (by decide) (by decide), Option.bind_some]
    rw [show f_X4_suspect pr pu' im' (nI N) (nI (C + 1)) so' (im' (3 * 1 + 0)) (im' (3 * 1 + 1)) (im' (3 * 1 + 2)) = some 0 from susp_0 ⟨by omega, by omega⟩ (fun v hv => (c2 v hv).2.2.2), Option.bind_some]
    rw [if_pos (show (0 : Int32) = nI 0 from rfl)]
    exact ⟨un', tp', sh', de', co', ma', ru', fo', pu', ta', qu', im', su', Q - 1, so', hs', ol', ct', rfl, hz', hK', hH'⟩
  have j225 : ∀ (q : Int32), (q = 0 ↔ Q = 0) → SndC N S (C + 1) pr se (f_L_isCycleSound_j225 un' tp' sh' de' co' ma' ru' fo' pr pu' ta' qu' im' su' (nI N) (nI (Q - 1)) (nI (C + 1)) so' hs' ol' ct' q (nI Q) (runM pr ta N) (nI (stN pr N)) (due im qu Q 0) (due im qu Q 1) (due im qu Q 2) (su 1) (ta 0 + ta 1) (nI C) r (fmP pu' N)) := by
    intro q hq
    have j237 : SndC N S (C + 1) pr se (f_L_isCycleSound_j237 un' tp' sh' de' co' ma' ru' fo' pr pu' ta' qu' im' su' (nI N) (nI (Q - 1)) (nI (C + 1)) so' hs' ol' ct' q (nI Q) (runM pr ta N) (nI (stN pr N)) (due im qu Q 0) (due im qu Q 1) (due im qu Q 2) (su 1) (ta 0 + ta 1) (nI C)) := by
      unfold f_L_isCycleSound_j237
      rw [show f_X4_queued (nI (Q - 1)) = some (nI (Q - 1)) from rfl, Option.bind_some]
      by_cases c : q = 0
      · have hq0 := hq.mp c
        rw [if_pos c, show nI (Q - 1) = (0 : Int32) from by rw [hq0]; rfl]
        have := j252 0
        rw [show nI (Q - 1) = (0 : Int32) from by rw [hq0]; rfl] at this
        exact this
      · have hq0 : ¬ Q = 0 := fun h => c (hq.mpr h)
        rw [if_neg c, am1 Q (by omega)]
        exact j252 _
    unfold f_L_isCycleSound_j225
    rcases c1 with ⟨h1, h2⟩ | ⟨h1, h2⟩
    · rw [if_pos h1, if_pos h2]; exact j237
    · rw [if_neg h1]; exact j237
  have j133 : ∀ (q x y : Int32), (q = 0 ↔ Q = 0) → y + x = due im qu Q 2 → SndC N S (C + 1) pr se (f_L_isCycleSound_j133 un tp sh de co ma ru fo pr pu ta se qu im su (nI N) (nI S) (nI Q) (nI C) so hs ol ct q (nI Q) (runM pr ta N) (nI (stN pr N)) (due im qu Q 0) (due im qu Q 1) x y) := by
    intro q x y hq hxy
    unfold f_L_isCycleSound_j133
    rw [show f_X4_total su 1 = some (su 1) from total_g (k := 1) (by decide), Option.bind_some, show f_X4_fuel ta 0 = some (ta 0) from fuel_g (k := 0) (by decide), Option.bind_some, show f_X4_fuel ta 1 = some (ta 1) from fuel_g (k := 1) (by decide), Option.bind_some, show f_X4_cycleCount (nI C) = some (nI C) from rfl, Option.bind_some, ec, Option.bind_some]
    dsimp only
    rw [b174_ok hN, Option.bind_some, hxy]
    rcases c1 with ⟨h1, h2⟩ | ⟨h1, h2⟩
    · rw [if_pos h1]; exact j225 q hq
    · rw [if_neg h1, if_pos h2]; exact j225 q hq
  have d0 : ∀ v, Q = 0 → im v + 0 = due im qu Q v := fun v h => by unfold due; rw [if_pos h]
  have dq : ∀ v, ¬ Q = 0 → im v + qu v = due im qu Q v := fun v h => by unfold due; rw [if_neg h]
  have i0 : ∀ v, v < 3 → f_X4_impulse im 0 (nI v) = some (im v) := fun v hv => by
    have := impulse_g (im := im) (w := 0) (by decide) hv
    rw [show 3 * 0 + v = v by omega] at this
    exact this
  have r0 : ∀ v, v < 3 → ¬ Q = 0 → f_X4_requested qu (nI Q) 0 (nI v) = some (qu v) := fun v hv h => requested_g hQ (by omega) hv
  have j12 : ∀ q : Int32, (q = 0 ↔ Q = 0) → SndC N S (C + 1) pr se (f_L_isCycleSound_j12 un tp sh de co ma ru fo pr pu ta se qu im su (nI N) (nI S) (nI Q) (nI C) so hs ol ct q) := by
    intro q hq
    unfold f_L_isCycleSound_j12
    rw [show f_X4_queued (nI Q) = some (nI Q) from rfl, Option.bind_some, b26_ok hC, Option.bind_some, show f_X4_impulse im 0 0 = some (im 0) from i0 0 (by decide), Option.bind_some]
    dsimp only
    by_cases c : q = 0
    · have hq0 := hq.mp c
      rw [if_pos c]
      unfold f_L_isCycleSound_j87
      rw [show f_X4_impulse im 0 1 = some (im 1) from i0 1 (by decide), Option.bind_some, if_pos c]
      unfold f_L_isCycleSound_j110
      rw [show f_X4_impulse im 0 2 = some (im 2) from i0 2 (by decide), Option.bind_some, if_pos c, d0 0 hq0, d0 1 hq0]
      exact j133 q 0 (im 2) hq (d0 2 hq0)
    · have hq0 : ¬ Q = 0 := fun h => c (hq.mpr h)
      rw [if_neg c, show f_X4_requested qu (nI Q) 0 0 = some (qu 0) from r0 0 (by decide) hq0, Option.bind_some]
      unfold f_L_isCycleSound_j87
      rw [show f_X4_impulse im 0 1 = some (im 1) from i0 1 (by decide), Option.bind_some, if_neg c, show f_X4_requested qu (nI Q) 0 1 = some (qu 1) from r0 1 (by decide) hq0, Option.bind_some]
      unfold f_L_isCycleSound_j110
      rw [show f_X4_impulse im 0 2 = some (im 2) from i0 2 (by decide), Option.bind_some, if_neg c, show f_X4_requested qu (nI Q) 0 2 = some (qu 2) from r0 2 (by decide) hq0, Option.bind_some, dq 0 hq0, dq 1 hq0]
      exact j133 q (qu 2) (im 2) hq (dq 2 hq0)
  unfold f_L_isCycleSound
  rw [show f_X4_queued (nI Q) = some (nI Q) from rfl, Option.bind_some]
  by_cases c : Q = 0
  · rw [if_pos (show nI Q ≤ 0 from by rw [c]; decide)]
    exact j12 0 ⟨fun _ => c, fun _ => rfl⟩
  · rw [if_neg (show ¬ nI Q ≤ 0 from nI_ge (a := 0) (by omega) (by omega))]
    exact j12 1 ⟨fun h => absurd h (by decide), fun h => absurd h c⟩

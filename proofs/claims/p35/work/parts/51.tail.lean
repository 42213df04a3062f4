/-! digest, determinant, cycles -/
theorem lp_cnt {b : Int64 × Int32 → Option ((Int64 × Int32) ⊕ Int64)} (e : Nat) (he : e < 1000) (h1 : ∀ i h, i < e → ∃ h', b (h, nI i) = some (.inl (h', nI (i + 1)))) (h2 : ∀ h, ∃ r, b (h, nI e) = some (.inr r)) (h0 : Int64) : ∃ r, lp b 1000 (h0, 0) = some r := by
  obtain ⟨r, e1, -⟩ := lp_run (b := b) (fun i s => s.2 = nI i) e (fun _ => True) (by
    rintro i ⟨h, y⟩ hi hy
    replace hy : y = nI i := hy
    subst hy
    rcases Nat.lt_or_ge i e with hlt | hge
    · obtain ⟨h', e2⟩ := h1 i h hlt
      exact Or.inl ⟨hlt, _, e2, rfl⟩
    · have : i = e := by omega
      subst this
      obtain ⟨r, e2⟩ := h2 h
      exact Or.inr ⟨r, e2, trivial⟩) 1000 0 (h0, 0) (Nat.zero_le _) (by omega) rfl
  exact ⟨r, e1⟩
theorem dig_of {pr pu ta qu im : Nat → Int32} {su : Nat → Int64} {N Q : Nat} {cn : Int32} (hC : Cu pr N) (hQ : Q ≤ 10) : ∃ h, f_X4_digest pr pu ta qu im su (nI N) (nI Q) cn = some h := by
  have hN := hC.1
  have b29 : ∀ i, i < N → ∀ h0, ∃ r, lp (f_X4_digest_b29 pr (nI i)) 1000 (h0, 0) = some r := fun i hi h0 => lp_cnt 7 (by omega) (fun w h hw => by
    unfold f_X4_digest_b29
    dsimp only
    rw [if_neg (show ¬ (7 : Int32) ≤ nI w from nI_ge (b := 7) hw (by omega)), prop_of hC hi w hw, Option.bind_some, nI_1]
    exact ⟨_, rfl⟩) (fun h => ⟨h, by unfold f_X4_digest_b29; dsimp only; rw [if_pos (show (7 : Int32) ≤ nI 7 by decide)]⟩) h0
  have b15 : ∀ h0, ∃ r, lp (f_X4_digest_b15 pr pu (nI N)) 1000 (h0, 0) = some r := fun h0 => lp_cnt N (by omega) (fun i h hi => by
    unfold f_X4_digest_b15
    dsimp only
    obtain ⟨r, e⟩ := b29 i hi h
    rw [if_neg (nI_ge hi (by omega)), e, Option.bind_some, gd_n (by omega), nI_1]
    exact ⟨_, rfl⟩) (fun h => ⟨h, by unfold f_X4_digest_b15; dsimp only; rw [if_pos (Int32.le_refl _)]⟩) h0
  have b85 : ∀ h0, ∃ r, lp (f_X4_digest_b85 ta) 1000 (h0, 0) = some r := fun h0 => lp_cnt 2 (by omega) (fun i h hi => by
    unfold f_X4_digest_b85
    dsimp only
    rw [if_neg (show ¬ (2 : Int32) ≤ nI i from nI_ge (b := 2) hi (by omega)), gd_n hi, nI_1]
    exact ⟨_, rfl⟩) (fun h => ⟨h, by unfold f_X4_digest_b85; dsimp only; rw [if_pos (show (2 : Int32) ≤ nI 2 by decide)]⟩) h0
  have b130 : ∀ h0, ∃ r, lp (f_X4_digest_b130 qu (nI Q)) 1000 (h0, 0) = some r := fun h0 => lp_cnt (3 * Q) (by omega) (fun i h hi => by
    unfold f_X4_digest_b130
    dsimp only
    rw [i3r, if_neg (nI_ge hi (by omega)), gd_n (by omega), nI_1]
    exact ⟨_, rfl⟩) (fun h => ⟨h, by unfold f_X4_digest_b130; dsimp only; rw [i3r, if_pos (Int32.le_refl _)]⟩) h0
  have b168 : ∀ h0, ∃ r, lp (f_X4_digest_b168 im) 1000 (h0, 0) = some r := fun h0 => lp_cnt 9 (by omega) (fun i h hi => by
    unfold f_X4_digest_b168
    dsimp only
    rw [if_neg (show ¬ (9 : Int32) ≤ nI i from nI_ge (b := 9) hi (by omega)), gd_n hi, nI_1]
    exact ⟨_, rfl⟩) (fun h => ⟨h, by unfold f_X4_digest_b168; dsimp only; rw [if_pos (show (9 : Int32) ≤ nI 9 by decide)]⟩) h0
  have b199 : ∀ h0, ∃ r, lp (f_X4_digest_b199 su) 1000 (h0, 0) = some r := fun h0 => lp_cnt 3 (by omega) (fun i h hi => by
    unfold f_X4_digest_b199
    dsimp only
    rw [if_neg (show ¬ (3 : Int32) ≤ nI i from nI_ge (b := 3) hi (by omega)), gd_n hi, nI_1]
    exact ⟨_, rfl⟩) (fun h => ⟨h, by unfold f_X4_digest_b199; dsimp only; rw [if_pos (show (3 : Int32) ≤ nI 3 by decide)]⟩) h0
  unfold f_X4_digest
  obtain ⟨r1, e1⟩ := b15 (527 + (nI N).toInt64)
  rw [e1, Option.bind_some]
  obtain ⟨r2, e2⟩ := b85 r1
  rw [e2, Option.bind_some]
  obtain ⟨r3, e3⟩ := b130 (31 * r2 + (nI Q).toInt64)
  rw [e3, Option.bind_some]
  obtain ⟨r4, e4⟩ := b168 r3
  rw [e4, Option.bind_some]
  obtain ⟨r5, e5⟩ := b199 r4
  rw [e5]
  exact ⟨_, rfl⟩
theorem det_g {pr ta : Nat → Int32} {N a b c : Nat} (hC : Cu pr N) (ha : a < N) (hb : b < N) (hc : c < N) (un : Nat → Nat → Int32) (tp : Nat → Int32) (ru : Int32) :
    ∃ un' tp', f_X4_determinant pr ta (nI N) un tp ru (nI a) (nI b) (nI c) = some ((det (wP pr a) (wP pr b) (wP pr c)).toInt32, un', tp', runM pr ta N) := by
  have hN := hC.1
  obtain ⟨un', tp', e, hU, -⟩ := readThr (ta := ta) hC un tp ru
  refine ⟨un', tp', ?_⟩
  unfold f_X4_determinant
  rw [thr1 hN ha, Option.bind_some, if_neg (by decide), thr1 hN hb, Option.bind_some, if_neg (by decide), thr1 hN hc, Option.bind_some, if_neg (by decide), e, Option.bind_some]
  dsimp only
  rw [detOf_ok _ _ _ _ (by omega) (by omega) (by omega), Option.bind_some]
  have rw_ : ∀ r, r < N → ∀ m, m < 3 → (fun m => (un' r m).toInt64) m = wP pr r m := fun r hr m hm => by
    show (un' r m).toInt64 = (unitP pr r m).toInt64
    rw [hU r hr m hm]
  rw [det_c (rw_ a ha) (rw_ b hb) (rw_ c hc)]
theorem det_sw (A B C : Nat → Int64) : (det A B C).toInt32 = -(det B A C).toInt32 := by
  have e : det A B C = -det B A C := by unfold det; grind
  rw [e]; exact Int64.toInt32_neg _
theorem det_ro (A B C : Nat → Int64) : det A B C = det B C A := by unfold det; grind
theorem det_eq (A C : Nat → Int64) : det A A C = 0 := by unfold det; grind
/-! several cycles, at once and one by one -/
abbrev T18 : Type := (Nat → Nat → Int32) × (Nat → Int32) × (Nat → Int64) × Int64 × Int64 × Int32 × Int32 × Int32 × (Nat → Int32) × (Nat → Int32) × (Nat → Int32) × (Nat → Int32) × (Nat → Int64) × Int32 × Int32 × Int32 × Int32 × Int32
abbrev T21 : Type := (Nat → Nat → Int32) × (Nat → Int32) × (Nat → Int64) × Int64 × Int64 × Int32 × Int32 × Int32 × (Nat → Int32) × (Nat → Int32) × (Nat → Int32) × (Nat → Int32) × (Nat → Int64) × Int32 × Int32 × Int32 × (Nat → SV) × Int32 × Int32 × Int32 × Int32
abbrev T17 : Type := (Nat → Nat → Int32) × (Nat → Int32) × (Nat → Int64) × Int64 × Int64 × Int32 × Int32 × Int32 × (Nat → Int32) × (Nat → Int32) × (Nat → Int32) × (Nat → Int32) × (Nat → Int64) × Int32 × Int32 × Int32 × Int32
abbrev T20b : Type := (Nat → Nat → Int32) × (Nat → Int32) × (Nat → Int64) × Int64 × Int64 × Int32 × Int32 × Int32 × (Nat → Int32) × (Nat → Int32) × (Nat → Int32) × (Nat → Int32) × (Nat → Int64) × Int32 × Int32 × Int32 × (Nat → SV) × Int32 × Int32 × Int32
def CyJ (N S : Nat) (pr se : Nat → Int32) (C0 i : Nat) (x : T18) (y : T21) : Prop :=
  ∃ un tp sh de co ma ru fo un2 tp2 sh2 de2 co2 ma2 ru2 fo2 pu ta qu im su Q so hs ol ct n, x = (un, tp, sh, de, co, ma, ru, fo, pu, ta, qu, im, su, nI Q, nI (C0 + i), so, n, nI i) ∧ y = (un2, tp2, sh2, de2, co2, ma2, ru2, fo2, pu, ta, qu, im, su, nI Q, nI (C0 + i), so, hs, ol, ct, n, nI i) ∧ zL 8 sh ∧ zL 8 sh2 ∧ OKs N S Q (C0 + i) pr pu ta se qu im su so ∧ Hi hs ol ct
def CyQ (N S : Nat) (pr se : Nat → Int32) (C0 e : Nat) (x : T17) (y : T20b) : Prop :=
  ∃ un tp sh de co ma ru fo un2 tp2 sh2 de2 co2 ma2 ru2 fo2 pu ta qu im su Q so hs ol ct n, x = (un, tp, sh, de, co, ma, ru, fo, pu, ta, qu, im, su, nI Q, nI (C0 + e), so, n) ∧ y = (un2, tp2, sh2, de2, co2, ma2, ru2, fo2, pu, ta, qu, im, su, nI Q, nI (C0 + e), so, hs, ol, ct, n) ∧ zL 8 sh ∧ zL 8 sh2 ∧ OKs N S Q (C0 + e) pr pu ta se qu im su so ∧ Hi hs ol ct
theorem cycles_rel {N S Q C e : Nat} {pr pu ta se qu im : Nat → Int32} {su : Nat → Int64} {so : Int32} {hs : Nat → SV} {ol ct : Int32} (he : e ≤ 20) (hK : OKs N S Q C pr pu ta se qu im su so) (hC1 : C + e < 2 ^ 30) (hH : Hi hs ol ct)
    (un : Nat → Nat → Int32) (tp : Nat → Int32) (sh : Nat → Int64) (de co : Int64) (ma ru fo : Int32) (hz : zL 8 sh) (un2 : Nat → Nat → Int32) (tp2 : Nat → Int32) (sh2 : Nat → Int64) (de2 co2 : Int64) (ma2 ru2 fo2 : Int32) (hz2 : zL 8 sh2) :
    ∃ x y, lp (f_X4_cycles_b28 pr se (nI N) (nI S) (nI e)) 1000 (un, tp, sh, de, co, ma, ru, fo, pu, ta, qu, im, su, nI Q, nI C, so, 0, 0) = some x ∧ lp (f_L_law_b518 pr se (nI N) (nI S) (nI e)) 1000 (un2, tp2, sh2, de2, co2, ma2, ru2, fo2, pu, ta, qu, im, su, nI Q, nI C, so, hs, ol, ct, 0, 0) = some y ∧ CyQ N S pr se C e x y := by
  refine lp_rel (b1 := f_X4_cycles_b28 pr se (nI N) (nI S) (nI e)) (b2 := f_L_law_b518 pr se (nI N) (nI S) (nI e)) (CyJ N S pr se C) e (CyQ N S pr se C e) ?_ 1000 0 _ _ (Nat.zero_le _) (by omega) ⟨un, tp, sh, de, co, ma, ru, fo, un2, tp2, sh2, de2, co2, ma2, ru2, fo2, pu, ta, qu, im, su, Q, so, hs, ol, ct, 0, rfl, rfl, hz, hz2, hK, hH⟩
  clear hz hz2 hK hH
  rintro i x y hi ⟨un, tp, sh, de, co, ma, ru, fo, un2, tp2, sh2, de2, co2, ma2, ru2, fo2, pu, ta, qu, im, su, Q, so, hs, ol, ct, n, rfl, rfl, hz, hz2, hK, hH⟩
  unfold f_X4_cycles_b28 f_L_law_b518
  dsimp only
  rcases Nat.lt_or_ge i e with hlt | hge
  · refine Or.inl ⟨hlt, ?_⟩
    obtain ⟨r, pu', ta', qu', im', su', so', -, h2, h3⟩ := run_cyc hK
    obtain ⟨hs', ol', ct', k1, k2⟩ := keep_ok hH hK.2.2.2.2.2
    obtain ⟨un', tp', sh', de', co', ma', ru', fo', z, e1⟩ := h3 un tp sh de co ma ru fo hz
    obtain ⟨un2', tp2', sh2', de2', co2', ma2', ru2', fo2', z2, e2⟩ := h3 un2 tp2 sh2 de2 co2 ma2 ru2 fo2 hz2
    have e3 : f_X4_cycle pr se (nI N) (nI S) un2 tp2 sh2 de2 co2 ma2 ru2 fo2 pu ta qu im su (nI Q) (nI (C + i)) so hs ol ct = some (r, un2', tp2', sh2', de2', co2', ma2', ru2', fo2', pu', ta', qu', im', su', nI (Q - 1), nI (C + i + 1), so', hs', ol', ct') := by
      unfold f_X4_cycle
      rw [k1, Option.bind_some, e2]
      rfl
    rw [if_neg (nI_ge hlt (by omega)), if_neg (nI_ge hlt (by omega)), e1, e3, Option.bind_some, Option.bind_some]
    dsimp only
    unfold f_L_law_j541
    by_cases c : r = -2000000000
    · rw [if_pos c, if_pos c, nI_1, Int32.add_zero]
      exact ⟨_, _, rfl, rfl, un', tp', sh', de', co', ma', ru', fo', un2', tp2', sh2', de2', co2', ma2', ru2', fo2', pu', ta', qu', im', su', Q - 1, so', hs', ol', ct', n, rfl, rfl, z, z2, h2 (by omega), k2.hi⟩
    · rw [if_neg c, if_neg c, nI_1]
      exact ⟨_, _, rfl, rfl, un', tp', sh', de', co', ma', ru', fo', un2', tp2', sh2', de2', co2', ma2', ru2', fo2', pu', ta', qu', im', su', Q - 1, so', hs', ol', ct', n + 1, rfl, rfl, z, z2, h2 (by omega), k2.hi⟩
  · have : i = e := by omega
    subst this
    rw [if_pos (Int32.le_refl _), if_pos (Int32.le_refl _)]
    exact Or.inr ⟨_, _, rfl, rfl, un, tp, sh, de, co, ma, ru, fo, un2, tp2, sh2, de2, co2, ma2, ru2, fo2, pu, ta, qu, im, su, Q, so, hs, ol, ct, n, rfl, rfl, hz, hz2, hK, hH⟩

/-! the law's loops -/
theorem np_n {k : Nat} (h : k < 2 ^ 31) : np (nI k) = true := by
  unfold np
  exact decide_eq_true (nI_pos h)
def zf : Nat → Int32 := fun _ => 0
def zl : Nat → Int64 := fun _ => 0
theorem zf_z (n : Nat) : zI n zf := fun _ _ => rfl
theorem zl_z (n : Nat) : zL n zl := fun _ _ => rfl
abbrev T7 : Type := (Nat → Int32) × (Nat → Int32) × Int32 × (Nat → SV) × Int32 × Int32 × Int32
theorem add_loop (xs : Nat → Int32) (L : Nat) (v : Int32) {hs : Nat → SV} {ol ct : Int32} (hK : OKs 0 0 0 0 zf zf taF zf zf zf zl 0) (hH : Hi hs ol ct) :
    ∃ pr pu N hs' ol' ct', lp (f_L_law_b70 xs L taF zf zf zf zl 0 0 0 0 v) 1000 (zf, zf, 0, hs, ol, ct, 0) = some (pr, pu, nI N, hs', ol', ct') ∧ 3 ≤ N ∧ OKs N 0 0 0 pr pu taF zf zf zf zl 0 ∧ Hi hs' ol' ct' := by
  obtain ⟨m, hm, em⟩ := low_of v (n := 6) (by omega) (by omega)
  have em' : f_L_low v 6 = some (nI m) := em
  have e3 : (3 : Int32) + nI m = nI (3 + m) := nI_add 3 m
  obtain ⟨r, e, pr, pu, hs', ol', ct', rfl, h2, h3⟩ := lp_run (b := f_L_law_b70 xs L taF zf zf zf zl 0 0 0 0 v) (fun i (s : T7) => ∃ pr pu hs ol ct, s = (pr, pu, nI i, hs, ol, ct, nI i) ∧ OKs i 0 0 0 pr pu taF zf zf zf zl 0 ∧ Hi hs ol ct) (3 + m) (fun r => ∃ pr pu hs ol ct, r = (pr, pu, nI (3 + m), hs, ol, ct) ∧ OKs (3 + m) 0 0 0 pr pu taF zf zf zf zl 0 ∧ Hi hs ol ct) (by
    rintro i s hi ⟨pr, pu, hs, ol, ct, rfl, hK, hH⟩
    unfold f_L_law_b70
    dsimp only
    rw [em', Option.bind_some, e3]
    rcases Nat.lt_or_ge i (3 + m) with hlt | hge
    · refine Or.inl ⟨hlt, ?_⟩
      have e1 : (1 : Int32) + nI i = nI (1 + i) := nI_add 1 i
      rw [if_neg (nI_ge hlt (by omega)), e1, gd_t (np_n (by omega))]
      generalize cellP xs L (nI (1 + i)) = y
      obtain ⟨a, ha, ea⟩ := low_of y (n := 21) (by omega) (by omega)
      obtain ⟨b, hb, eb⟩ := low_of (y >>> (5 &&& 31)) (n := 21) (by omega) (by omega)
      obtain ⟨f, hf, ef⟩ := low_of (y >>> (12 &&& 31)) (n := 10) (by omega) (by omega)
      obtain ⟨w, hw, ew⟩ := low_of (y >>> (17 &&& 31)) (n := 5) (by omega) (by omega)
      obtain ⟨d, hd, ed⟩ := pk_andE (y >>> (10 &&& 31)) (m := 3) 2 (by decide)
      obtain ⟨t, ht, et⟩ := pk_andE (y >>> (16 &&& 31)) (m := 1) 1 (by decide)
      have b0 : (nI a - 10).toInt = (a : Int) - 10 := by
        rw [show (10 : Int32) = nI 10 from rfl]; exact pk_sub_toInt (by omega) (by omega)
      have b1 : (nI b - 10).toInt = (b : Int) - 10 := by
        rw [show (10 : Int32) = nI 10 from rfl]; exact pk_sub_toInt (by omega) (by omega)
      have go : ∀ d, d < 4 → ∃ s', f_L_law_j130 pr pu taF zf zf zf zl (nI i) 0 0 0 0 hs ol ct (nI i) y (nI d) (nI b - 10) (nI a - 10) = some (Sum.inl s') ∧ ∃ pr pu hs ol ct, s' = (pr, pu, nI (i + 1), hs, ol, ct, nI (i + 1)) ∧ OKs (i + 1) 0 0 0 pr pu taF zf zf zf zl 0 ∧ Hi hs ol ct := by
        intro d hd
        unfold f_L_law_j130
        rw [show f_L_low (y >>> (12 &&& 31)) 10 = some (nI f) from ef, Option.bind_some, show f_L_low (y >>> (17 &&& 31)) 5 = some (nI w) from ew, Option.bind_some, et]
        rcases add_g hK hH (p0 := nI a - 10) (p1 := nI b - 10) (by rw [b0]; omega) (by rw [b1]; omega) hd hf ht (show w < 10 by omega) with ⟨h8, pr', pu', hs', ol', ct', e, k1, k2⟩ | ⟨h8, e⟩
        · rw [show f_X4_addThruster taF zf zf zf zl 0 0 0 0 pr pu (nI i) hs ol ct (nI a - 10) (nI b - 10) (nI d) (1 + nI f) (nI t) (1 + nI w) = some (nI i, pr', pu', nI (i + 1), hs', ol', ct') from e, Option.bind_some, if_pos rfl, nI_1]
          exact ⟨_, rfl, pr', pu', hs', ol', ct', rfl, k1, k2.hi⟩
        · omega
      rw [show f_L_low y 21 = some (nI a) from ea, Option.bind_some, show f_L_low (y >>> (5 &&& 31)) 21 = some (nI b) from eb, Option.bind_some, ed]
      by_cases c : (4 : Int32) ≤ nI i
      · rw [if_pos c]; exact go d hd
      · rw [if_neg c]
        refine go i ?_
        refine Classical.byContradiction fun h => c ?_
        exact nI_le (a := 4) (by omega) (by omega)
    · have hi : i = 3 + m := by omega
      subst hi
      rw [if_pos (Int32.le_refl _)]
      exact Or.inr ⟨_, rfl, pr, pu, hs, ol, ct, rfl, hK, hH⟩) 1000 0 (zf, zf, 0, hs, ol, ct, 0) (Nat.zero_le _) (by omega) ⟨zf, zf, hs, ol, ct, rfl, hK, hH⟩
  exact ⟨pr, pu, 3 + m, hs', ol', ct', e, by omega, h2, h3⟩
abbrev T24 : Type := (Nat → Nat → Int32) × (Nat → Int32) × (Nat → Int64) × Int64 × Int64 × Int32 × Int32 × Int32 × (Nat → Int32) × (Nat → Int32) × (Nat → Int32) × (Nat → Int32) × (Nat → Int32) × (Nat → Int32) × (Nat → Int64) × Int32 × Int32 × Int32 × Int32 × Int32 × (Nat → SV) × Int32 × Int32 × Int32
abbrev T23 : Type := (Nat → Nat → Int32) × (Nat → Int32) × (Nat → Int64) × Int64 × Int64 × Int32 × Int32 × Int32 × (Nat → Int32) × (Nat → Int32) × (Nat → Int32) × (Nat → Int32) × (Nat → Int32) × (Nat → Int32) × (Nat → Int64) × Int32 × Int32 × Int32 × Int32 × Int32 × (Nat → SV) × Int32 × Int32
def Sta (i : Nat) (x : T24) : Prop := ∃ un tp sh de co ma ru fo N S Q C pr pu ta se qu im su so hs ol ct, x = (un, tp, sh, de, co, ma, ru, fo, pr, pu, ta, se, qu, im, su, nI N, nI S, nI Q, nI C, so, hs, ol, ct, nI i) ∧ zL 8 sh ∧ 3 ≤ N ∧ C ≤ i ∧ OKs N S Q C pr pu ta se qu im su so ∧ Hi hs ol ct
def Stz (x : T23) : Prop := ∃ un tp sh de co ma ru fo N S Q C pr pu ta se qu im su so hs ol ct, x = (un, tp, sh, de, co, ma, ru, fo, pr, pu, ta, se, qu, im, su, nI N, nI S, nI Q, nI C, so, hs, ol, ct) ∧ zL 8 sh ∧ 3 ≤ N ∧ C ≤ 22 ∧ OKs N S Q C pr pu ta se qu im su so ∧ Hi hs ol ct
def Nxt (i : Nat) (x : Option (T24 ⊕ T23)) : Prop := ∃ s', x = some (Sum.inl s') ∧ Sta (i + 1) s'
theorem j295_ok {i N S Q C : Nat} {pr pu ta se qu im : Nat → Int32} {su : Nat → Int64} {so : Int32} {hs : Nat → SV} {ol ct : Int32} (hi : i < 22) (hN3 : 3 ≤ N) (hCi : C ≤ i) (hK : OKs N S Q C pr pu ta se qu im su so) (hH : Hi hs ol ct)
    (un : Nat → Nat → Int32) (tp : Nat → Int32) (sh : Nat → Int64) (de co : Int64) (ma ru fo : Int32) (hz : zL 8 sh) (y : Int32) :
    Nxt i (f_L_law_j295 un tp sh de co ma ru fo pr pu ta se qu im su (nI N) (nI S) (nI Q) (nI C) so hs ol ct (nI i) y) := by
  obtain ⟨a, ha, ea⟩ := low_of (y >>> (3 &&& 31)) (n := 200) (by omega) (by omega)
  obtain ⟨b, hb, eb⟩ := low_of (y >>> (8 &&& 31)) (n := 200) (by omega) (by omega)
  obtain ⟨d, hd, ed⟩ := low_of (y >>> (12 &&& 31)) (n := 800) (by omega) (by omega)
  have b0 : (nI a - 100).toInt = (a : Int) - (100 : Nat) := sub_in (by omega) (by omega) rfl
  have b1 : (nI b - 100).toInt = (b : Int) - (100 : Nat) := sub_in (by omega) (by omega) rfl
  have b2 : (nI d - 400).toInt = (d : Int) - (400 : Nat) := sub_in (by omega) (by omega) rfl
  unfold f_L_law_j295
  rw [show f_L_low (y >>> (3 &&& 31)) 200 = some (nI a) from ea, Option.bind_some, show f_L_low (y >>> (8 &&& 31)) 200 = some (nI b) from eb, Option.bind_some, show f_L_low (y >>> (12 &&& 31)) 800 = some (nI d) from ed, Option.bind_some]
  obtain ⟨⟨r, un', tp', sh', de', co', ma', ru', fo'⟩, e1, hr, hz'⟩ := sel_sound (ta := ta) (se := se) (p1 := nI a - 100) (p2 := nI b - 100) (p3 := nI d - 400) hK.1 hK.2.1 (isTar1 (by omega) (by omega) (by omega)) un tp sh de co ma ru fo hz
  replace hr : r = 1 := hr
  replace hz' : zL 8 sh' := hz'
  subst hr
  rw [e1, Option.bind_some]
  dsimp only
  rw [if_neg (by decide)]
  by_cases c : (y &&& 1) = 0
  · rw [if_pos c]
    obtain ⟨un2, tp2, sh2, de2, co2, ma2, ru2, fo2, pu', ta', qu', im', su', Q', so', hs', ol', ct', e2, z2, k2, h2⟩ := cyc_sound hK (by omega) hH un' tp' sh' de' co' ma' ru' fo' hz'
    rw [e2, Option.bind_some]
    dsimp only
    rw [if_neg (by decide), nI_1]
    exact ⟨_, rfl, un2, tp2, sh2, de2, co2, ma2, ru2, fo2, N, S, Q', C + 1, pr, pu', ta', se, qu', im', su', so', hs', ol', ct', rfl, z2, hN3, by omega, k2, h2⟩
  · rw [if_neg c, nI_1]
    exact ⟨_, rfl, un', tp', sh', de', co', ma', ru', fo', N, S, Q, C, pr, pu, ta, se, qu, im, su, so, hs, ol, ct, rfl, hz', hN3, by omega, hK, hH⟩
theorem forb255 {pr ta se : Nat → Int32} {N S : Nat} (hC : Cu pr N) (hS : S ≤ 8) : ∃ f, f_X4_isForbidden pr ta se (nI N) (nI S) 255 = some f := by
  rw [isForb_of hC hS (by decide)]
  obtain ⟨u, e, -⟩ := forb_of (se := se) hS (255 ||| runM pr ta N)
  exact ⟨u, e⟩
theorem main_loop (xs : Nat → Int32) (L : Nat) {N : Nat} {pr pu ta se qu im : Nat → Int32} {su : Nat → Int64} {so : Int32} {hs : Nat → SV} {ol ct : Int32} (hN3 : 3 ≤ N) (hK : OKs N 0 0 0 pr pu ta se qu im su so) (hH : Hi hs ol ct)
    (un : Nat → Nat → Int32) (tp : Nat → Int32) (sh : Nat → Int64) (de co : Int64) (ma ru fo : Int32) (hz : zL 8 sh) :
    ∃ x, lp (f_L_law_b177 xs L) 1000 (un, tp, sh, de, co, ma, ru, fo, pr, pu, ta, se, qu, im, su, nI N, 0, 0, 0, so, hs, ol, ct, 0) = some x ∧ Stz x := by
  refine lp_run (b := f_L_law_b177 xs L) Sta 22 Stz ?_ 1000 0 _ (Nat.zero_le _) (by omega) ⟨un, tp, sh, de, co, ma, ru, fo, N, 0, 0, 0, pr, pu, ta, se, qu, im, su, so, hs, ol, ct, rfl, hz, hN3, Nat.le_refl _, hK, hH⟩
  clear hz hN3 hK hH
  rintro i s hi ⟨un, tp, sh, de, co, ma, ru, fo, N, S, Q, C, pr, pu, ta, se, qu, im, su, so, hs, ol, ct, rfl, hz, hN3, hCi, hK, hH⟩
  unfold f_L_law_b177
  dsimp only
  rcases Nat.lt_or_ge i 22 with hlt | hge
  · refine Or.inl ⟨hlt, ?_⟩
    have e9 : (9 : Int32) + nI i = nI (9 + i) := nI_add 9 i
    rw [if_neg (show ¬ (22 : Int32) ≤ nI i from nI_ge (b := 22) hlt (by omega)), e9, gd_t (np_n (by omega))]
    generalize cellP xs L (nI (9 + i)) = y
    obtain ⟨h, eh⟩ := dig_of (pu := pu) (ta := ta) (qu := qu) (im := im) (su := su) (cn := nI C) hK.1 hK.2.2.1
    obtain ⟨f, ef⟩ := forb255 (ta := ta) (se := se) hK.1 hK.2.1
    have s0 : lg_cmp h h = 0 := (lg_eq0 h h).mpr rfl
    obtain ⟨r, N', S', Q', pr', pu', ta', se', qu', hs', ol', ct', ec, hNN, hK', hH', hor⟩ := change_ok hK hH y
    rw [eh, Option.bind_some, ef, Option.bind_some, ec, Option.bind_some]
    dsimp only
    show Nxt i _
    have j295' := j295_ok (i := i) hlt (show 3 ≤ N' by omega) hCi hK' hH' un tp sh de co ma ru fo hz y
    rcases hor with ⟨hr, rfl, rfl, rfl, rfl, rfl, rfl, rfl, rfl⟩ | ⟨hr, hT⟩
    · rw [if_neg (show ¬ (-2000000000 : Int32) ≤ r from fun h => by rw [Int32.le_iff_toInt_le] at h; rw [Int32.lt_iff_toInt_lt] at hr; omega), eh, Option.bind_some, if_pos s0, ef, Option.bind_some, if_pos rfl]
      unfold f_L_law_j247
      rw [if_pos (show r ≤ (-2000000000 : Int32) by rw [Int32.le_iff_toInt_le]; rw [Int32.lt_iff_toInt_lt] at hr; omega)]
      exact j295'
    · rw [if_pos (show (-2000000000 : Int32) ≤ r by rw [Int32.le_iff_toInt_le]; rw [Int32.lt_iff_toInt_lt] at hr; omega)]
      unfold f_L_law_j247
      rw [if_neg (show ¬ r ≤ (-2000000000 : Int32) from fun h => by rw [Int32.le_iff_toInt_le] at h; rw [Int32.lt_iff_toInt_lt] at hr; omega)]
      by_cases c : ((y >>> (27 &&& 31)) &&& 3) = 0
      · rw [if_pos c]
        obtain ⟨q, eu, hq, hHu⟩ := undo_ok hT hK'.2.2.2.2.2
        rw [eu, Option.bind_some]
        dsimp only
        rw [if_neg hq, eh, Option.bind_some, if_pos s0, ef, Option.bind_some, if_pos rfl]
        exact j295_ok (i := i) hlt hN3 hCi hK hHu un tp sh de co ma ru fo hz y
      · rw [if_neg c]; exact j295'
  · have hi : i = 22 := by omega
    subst hi
    rw [if_pos (show (22 : Int32) ≤ nI 22 by decide)]
    exact Or.inr ⟨_, rfl, un, tp, sh, de, co, ma, ru, fo, N, S, Q, C, pr, pu, ta, se, qu, im, su, so, hs, ol, ct, rfl, hz, hN3, hCi, hK, hH⟩

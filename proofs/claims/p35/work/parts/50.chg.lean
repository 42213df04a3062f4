/-! a change -/
theorem sp_ok (pr : Nat → Int32) (i w : Nat) (x : Int32) (h : 7 * i + w < 56) : f_X2_setProperty pr (nI i) (nI w) x = some (upd pr (7 * i + w) x) := by
  unfold f_X2_setProperty
  rw [ix7, gd_n h, nI_clamp (by omega)]
theorem app_ok (pr pu : Nat → Int32) (N : Nat) (hN : N < 8) (a b c d e f : Int32) : f_X2_appendThruster pr pu (nI N) a b c d e f = some (nI N, upd (upd (upd (upd (upd (upd (upd pr (7 * N) a) (7 * N + 1) b) (7 * N + 2) c) (7 * N + 3) d) (7 * N + 4) e) (7 * N + 5) f) (7 * N + 6) 0, upd pu N 0, nI (N + 1)) := by
  unfold f_X2_appendThruster
  rw [show f_X2_setProperty pr (nI N) 0 a = _ from sp_ok pr N 0 a (by omega), Option.bind_some]
  rw [show f_X2_setProperty _ (nI N) 1 b = _ from sp_ok _ N 1 b (by omega), Option.bind_some]
  rw [show f_X2_setProperty _ (nI N) 2 c = _ from sp_ok _ N 2 c (by omega), Option.bind_some]
  rw [show f_X2_setProperty _ (nI N) 3 d = _ from sp_ok _ N 3 d (by omega), Option.bind_some]
  rw [show f_X2_setProperty _ (nI N) 4 e = _ from sp_ok _ N 4 e (by omega), Option.bind_some]
  rw [show f_X2_setProperty _ (nI N) 5 f = _ from sp_ok _ N 5 f (by omega), Option.bind_some]
  rw [show f_X2_setProperty _ (nI N) 6 0 = _ from sp_ok _ N 6 0 (by omega), Option.bind_some]
  rw [gd_n hN, nI_clamp (by omega), ap1]
  rfl
theorem mask_top : ∀ N, N < 9 → ((1 : Int32) <<< (nI N &&& 31)) - 1 = nI (2 ^ N - 1) ∧ 2 ^ N - 1 < 256 := by decide +kernel
abbrev T12 : Type := Int32 × (Nat → Int32) × (Nat → Int32) × (Nat → Int32) × (Nat → Int32) × (Nat → Int32) × Int32 × Int32 × Int32 × (Nat → SV) × Int32 × Int32
def ChR (N S Q C : Nat) (pr pu ta se qu im : Nat → Int32) (su : Nat → Int64) (so : Int32) (x : Option T12) : Prop :=
  ∃ r N' S' Q' pr' pu' ta' se' qu' hs' ol' ct', x = some (r, pr', pu', ta', se', qu', nI N', nI S', nI Q', hs', ol', ct') ∧ N ≤ N' ∧ OKs N' S' Q' C pr' pu' ta' se' qu' im su so ∧ Hi hs' ol' ct' ∧
    ((r < -2000000000 ∧ pr' = pr ∧ pu' = pu ∧ ta' = ta ∧ se' = se ∧ qu' = qu ∧ N' = N ∧ S' = S ∧ Q' = Q) ∨ (-2000000000 < r ∧ Top (pr, pu, ta, se, qu, im, su, nI N, nI S, nI Q, nI C, so) hs' ol' ct'))
theorem gt_none {k : Nat} (h : k < 2 ^ 31) : (-2000000000 : Int32) < nI k := by
  rw [Int32.lt_iff_toInt_lt, nI_toInt h, show (-2000000000 : Int32).toInt = -2000000000 from by decide]
  omega
theorem upd7 (pr : Nat → Int32) (b : Nat) (x0 x1 x2 x3 x4 x5 x6 : Int32) (g : Nat → Int32) (hg : g = upd (upd (upd (upd (upd (upd (upd pr b x0) (b + 1) x1) (b + 2) x2) (b + 3) x3) (b + 4) x4) (b + 5) x5) (b + 6) x6) :
    g b = x0 ∧ g (b + 1) = x1 ∧ g (b + 2) = x2 ∧ g (b + 3) = x3 ∧ g (b + 4) = x4 ∧ g (b + 5) = x5 ∧ g (b + 6) = x6 ∧ ∀ k, (k < b ∨ b + 7 ≤ k) → g k = pr k := by
  subst hg
  refine ⟨?_, ?_, ?_, ?_, ?_, ?_, us, fun k hk => ?_⟩
  · rw [uu (by omega), uu (by omega), uu (by omega), uu (by omega), uu (by omega), uu (by omega), us]
  · rw [uu (by omega), uu (by omega), uu (by omega), uu (by omega), uu (by omega), us]
  · rw [uu (by omega), uu (by omega), uu (by omega), uu (by omega), us]
  · rw [uu (by omega), uu (by omega), uu (by omega), us]
  · rw [uu (by omega), uu (by omega), us]
  · rw [uu (by omega), us]
  · rw [uu (by omega), uu (by omega), uu (by omega), uu (by omega), uu (by omega), uu (by omega), uu (by omega)]
theorem PV.same {p p' : Nat → Int32} {i : Nat} (h : ∀ k, k < 7 → p' (7 * i + k) = p (7 * i + k)) (hp : PV p i) : PV p' i := by
  have h0 := h 0 (by omega)
  rw [Nat.add_zero] at h0
  unfold PV at hp ⊢
  rw [h0, h 1 (by omega), h 2 (by omega), h 3 (by omega), h 4 (by omega), h 5 (by omega), h 6 (by omega)]
  exact hp
section CH
variable {N S Q C : Nat} {pr pu ta se qu im : Nat → Int32} {su : Nat → Int64} {so : Int32} {hs : Nat → SV} {ol ct : Int32}
theorem ChR.no {r : Int32} (hK : OKs N S Q C pr pu ta se qu im su so) (hH : Hi hs ol ct) (hr : r < -2000000000) : ChR N S Q C pr pu ta se qu im su so (some (r, pr, pu, ta, se, qu, nI N, nI S, nI Q, hs, ol, ct)) :=
  ⟨r, N, S, Q, pr, pu, ta, se, qu, hs, ol, ct, rfl, Nat.le_refl _, hK, hH, .inl ⟨hr, rfl, rfl, rfl, rfl, rfl, rfl, rfl, rfl⟩⟩
theorem add_g (hK : OKs N S Q C pr pu ta se qu im su so) (hH : Hi hs ol ct) {p0 p1 : Int32} {d f t w : Nat} (h0 : -10 ≤ p0.toInt ∧ p0.toInt ≤ 10) (h1 : -10 ≤ p1.toInt ∧ p1.toInt ≤ 10) (hd : d < 4) (hf : f < 10) (ht : t < 2) (hw : w < 10) :
    (N < 8 ∧ ∃ pr' pu' hs' ol' ct', f_X4_addThruster ta se qu im su (nI S) (nI Q) (nI C) so pr pu (nI N) hs ol ct p0 p1 (nI d) (1 + nI f) (nI t) (1 + nI w) = some (nI N, pr', pu', nI (N + 1), hs', ol', ct') ∧ OKs (N + 1) S Q C pr' pu' ta se qu im su so ∧ Top (pr, pu, ta, se, qu, im, su, nI N, nI S, nI Q, nI C, so) hs' ol' ct') ∨
    (N = 8 ∧ f_X4_addThruster ta se qu im su (nI S) (nI Q) (nI C) so pr pu (nI N) hs ol ct p0 p1 (nI d) (1 + nI f) (nI t) (1 + nI w) = some (-2000000004, pr, pu, nI N, hs, ol, ct)) := by
  obtain ⟨hC, hS, hQ, hCn, hT, hZ⟩ := id hK
  have hN := hC.1
  have e10 : (-(10 : Int32)).toInt = -10 := by decide
  have e11 : (10 : Int32).toInt = 10 := by decide
  have ef : (1 : Int32) + nI f = nI (1 + f) := nI_add 1 f
  have ew : (1 : Int32) + nI w = nI (1 + w) := nI_add 1 w
  have w1 : ∀ k, k < 10 → f_X4_isWithin (nI (1 + k)) 1 10 = some 1 := fun k hk => wth1 (by rw [nI_toInt (by omega), show (1 : Int32).toInt = 1 from by decide]; omega) (by rw [nI_toInt (by omega), e11]; omega)
  have E : f_X4_addThruster ta se qu im su (nI S) (nI Q) (nI C) so pr pu (nI N) hs ol ct p0 p1 (nI d) (1 + nI f) (nI t) (1 + nI w) = if nI N < 8 then ((f_X0_keep pr pu ta se qu im su (nI N) (nI S) (nI Q) (nI C) so hs ol ct).bind (fun q13 => (f_X2_appendThruster pr pu (nI N) p0 p1 (nI d) (nI (1 + f)) (nI t) (nI (1 + w))).bind (fun q14 => some (q14.1, q14.2.1, q14.2.2.1, q14.2.2.2, q13.1, q13.2.1, q13.2.2)))) else (some ((-2000000004), pr, pu, nI N, hs, ol, ct)) := by
    unfold f_X4_addThruster
    rw [ef, ew, tank1 ht, Option.bind_some, if_neg (by decide), atMost (by rw [e10]; omega) (by rw [e11]; omega), Option.bind_some, if_neg (by decide), atMost (by rw [e10]; omega) (by rw [e11]; omega), Option.bind_some, if_neg (by decide)]
    unfold f_X4_addThruster_j34
    rw [show (3 : Int32) = nI 3 from rfl, wth_n (by omega) (by omega), Option.bind_some, if_neg (by decide), w1 f hf, Option.bind_some, if_neg (by decide), w1 w hw, Option.bind_some, if_neg (by decide)]
    unfold f_X4_addThruster_j72
    rw [if_neg (by decide), if_neg (by decide)]
  rw [E]
  rcases Nat.lt_or_ge N 8 with h8 | h8
  · refine Or.inl ⟨h8, ?_⟩
    rw [if_pos (show nI N < 8 from nI_lt (b := 8) h8 (by omega))]
    obtain ⟨hs', ol', ct', k1, k2⟩ := keep_ok hH hZ
    rw [k1, Option.bind_some, app_ok pr pu N h8]
    obtain ⟨z1, z2, z3, z4, z5, z6, z7⟩ := hZ
    obtain ⟨g, hg⟩ : ∃ g, g = upd (upd (upd (upd (upd (upd (upd pr (7 * N) p0) (7 * N + 1) p1) (7 * N + 2) (nI d)) (7 * N + 3) (nI (1 + f))) (7 * N + 4) (nI t)) (7 * N + 5) (nI (1 + w))) (7 * N + 6) 0 := ⟨_, rfl⟩
    obtain ⟨u0, u1, u2, u3, u4, u5, u6, u7⟩ := upd7 _ _ _ _ _ _ _ _ _ g hg
    rw [← hg]
    refine ⟨g, upd pu N 0, hs', ol', ct', rfl, ⟨⟨by omega, fun i hi => ?_⟩, hS, hQ, hCn, hT, fun k hk => ?_, z2.u h8 _, z3, z4, z5, z6, z7⟩, k2⟩
    · by_cases c : i = N
      · subst c
        unfold PV
        rw [u0, u1, u2, u3, u4, u5, u6]
        exact ⟨h0, h1, ⟨d, hd, rfl⟩, ⟨1 + f, by omega, by omega, rfl⟩, ⟨t, ht, rfl⟩, ⟨1 + w, by omega, by omega, rfl⟩, ⟨0, by omega, rfl⟩⟩
      · exact PV.same (fun k hk => u7 _ (by omega)) (hC.2 i (by omega))
    · show g k = 0
      rw [u7 k (by omega)]; exact z1 k hk
  · refine Or.inr ⟨by omega, ?_⟩
    rw [if_neg (show ¬ nI N < 8 from fun h => by rw [show (8 : Int32) = nI 8 from rfl, nI_ltI (by omega) (by omega)] at h; omega)]
theorem setState_g (hK : OKs N S Q C pr pu ta se qu im su so) (hH : Hi hs ol ct) {k st : Nat} (hk : k < 8) (hst : st < 3) :
    ChR N S Q C pr pu ta se qu im su so ((f_X4_setState pu ta se qu im su (nI N) (nI S) (nI Q) (nI C) so pr hs ol ct (nI k) (nI st)).bind (fun q18 => some (q18.1, q18.2.1, pu, ta, se, qu, nI N, nI S, nI Q, q18.2.2.1, q18.2.2.2.1, q18.2.2.2.2))) := by
  obtain ⟨hC, hS, hQ, hCn, hT, hZ⟩ := id hK
  have hN := hC.1
  unfold f_X4_setState
  rcases isThr N hN (nI k) with h | ⟨h, i, hi, e⟩
  · rw [h]
    exact ChR.no (r := -2000000001) hK hH (by decide)
  · have hki : k = i := nI_inj (by omega) (by omega) e
    subst hki
    obtain ⟨hs', ol', ct', k1, k2⟩ := keep_ok hH hZ
    rw [h, Option.bind_some, if_neg (by decide), show (2 : Int32) = nI 2 from rfl, wth_n (by omega) (by omega), Option.bind_some, if_neg (by decide), k1, Option.bind_some, show (6 : Int32) = nI 6 from rfl, prop_of hC hi 6 (by omega), Option.bind_some, sp_ok _ _ _ _ (by omega)]
    obtain ⟨z1, z2, z3, z4, z5, z6, z7⟩ := hZ
    obtain ⟨-, -, -, -, -, -, z, hz, ez⟩ := hC.2 k hi
    refine ⟨pr (7 * k + 6), N, S, Q, upd pr (7 * k + 6) (nI st), pu, ta, se, qu, hs', ol', ct', rfl, Nat.le_refl _, ⟨⟨hN, fun i hi => ?_⟩, hS, hQ, hCn, hT, z1.u (by omega) _, z2, z3, z4, z5, z6, z7⟩, k2.hi, .inr ⟨by rw [ez]; exact gt_none (by omega), k2⟩⟩
    by_cases c : i = k
    · subst c
      obtain ⟨a0, a1, a2, a3, a4, a5, -⟩ := hC.2 i hi
      unfold PV
      rw [uu (by omega), uu (by omega), uu (by omega), uu (by omega), uu (by omega), uu (by omega), us]
      exact ⟨a0, a1, a2, a3, a4, a5, ⟨st, hst, rfl⟩⟩
    · exact PV.same (fun j hj => uu (by omega)) (hC.2 i hi)
theorem refuel_g (hK : OKs N S Q C pr pu ta se qu im su so) (hH : Hi hs ol ct) {t u : Nat} (ht : t < 2) (hu : u ≤ 100000) :
    ChR N S Q C pr pu ta se qu im su so ((f_X4_refuel pr pu se qu im su (nI N) (nI S) (nI Q) (nI C) so ta hs ol ct (nI t) (nI u)).bind (fun q29 => some (q29.1, pr, pu, q29.2.1, se, qu, nI N, nI S, nI Q, q29.2.2.1, q29.2.2.2.1, q29.2.2.2.2))) := by
  obtain ⟨hC, hS, hQ, hCn, hT, hZ⟩ := id hK
  obtain ⟨hs', ol', ct', k1, k2⟩ := keep_ok hH hZ
  obtain ⟨z1, z2, z3, z4, z5, z6, z7⟩ := hZ
  unfold f_X4_refuel
  rw [tank1 ht, Option.bind_some, if_neg (by decide), show (100000 : Int32) = nI 100000 from rfl, wth_n hu (by omega), Option.bind_some, if_neg (by decide), k1, Option.bind_some, gd_n ht, gd_n ht, nI_clamp (by omega)]
  have hr := hT t ht
  refine ⟨ta t, N, S, Q, pr, pu, upd ta t (nI u), se, qu, hs', ol', ct', rfl, Nat.le_refl _, ⟨hC, hS, hQ, hCn, fun k hk => ?_, z1, z2, z3.u ht _, z4, z5, z6, z7⟩, k2.hi, .inr ⟨?_, k2⟩⟩
  · by_cases c : k = t
    · subst c; rw [us, nI_toInt (by omega)]; omega
    · rw [uu c]; exact hT k hk
  · rw [Int32.lt_iff_toInt_lt, show (-2000000000 : Int32).toInt = -2000000000 from by decide]; omega
theorem placeOf (hS : S ≤ 8) (p : Int32) : ∃ u, f_X2_placeOfSet se (nI S) p = some u ∧ ((∃ k, k < S ∧ u = nI k) ∨ u = -1) := by
  obtain ⟨r, e, hr⟩ := lp_run (b := f_X2_placeOfSet_b2 se (nI S) p) (fun i s => s = nI i) S (fun r => (∃ k, k < S ∧ r = Sum.inl (nI k)) ∨ r = Sum.inr ()) (by
    rintro i s hi rfl
    unfold f_X2_placeOfSet_b2
    rcases Nat.lt_or_ge i S with hlt | hge
    · rw [if_neg (nI_ge hlt (by omega)), gd_n (by omega)]
      by_cases c : se (nI i).toNatClampNeg = p
      · rw [if_pos c]; exact Or.inr ⟨_, rfl, Or.inl ⟨i, hlt, rfl⟩⟩
      · rw [if_neg c]; exact Or.inl ⟨hlt, _, rfl, ap1 i⟩
    · have hi : i = S := by omega
      subst hi
      rw [if_pos (nI_le (Nat.le_refl _) (by omega))]
      exact Or.inr ⟨_, rfl, Or.inr rfl⟩) 1000 0 0 (Nat.zero_le _) (by omega) rfl
  unfold f_X2_placeOfSet
  rw [e, Option.bind_some]
  rcases hr with ⟨k, hk, rfl⟩ | rfl
  · exact ⟨nI k, rfl, .inl ⟨k, hk, rfl⟩⟩
  · exact ⟨-1, rfl, .inr rfl⟩
theorem forbid_g (hK : OKs N S Q C pr pu ta se qu im su so) (hH : Hi hs ol ct) (p : Int32) :
    ChR N S Q C pr pu ta se qu im su so ((f_X4_forbid pr pu ta qu im su (nI N) (nI Q) (nI C) so se (nI S) hs ol ct p).bind (fun q22 => some (q22.1, pr, pu, ta, q22.2.1, qu, nI N, q22.2.2.1, nI Q, q22.2.2.2.1, q22.2.2.2.2.1, q22.2.2.2.2.2))) := by
  obtain ⟨hC, hS, hQ, hCn, hT, hZ⟩ := id hK
  unfold f_X4_forbid f_X4_forbid_j29
  rcases wi p 0 (((1 : Int32) <<< (nI N &&& 31)) - 1) with ⟨h, -⟩ | ⟨h, -⟩
  · rw [h]; exact ChR.no (r := -2000000002) hK hH (by decide)
  · rw [h, Option.bind_some, if_neg (by decide)]
    obtain ⟨q, hq⟩ : ∃ q, f_J6_bitCount_0f7a4 p = some q := ⟨_, rfl⟩
    rw [hq, Option.bind_some]
    by_cases c : 2 ≤ q
    · rw [if_pos c]
      obtain ⟨u, hu, hu2⟩ := placeOf (se := se) hS p
      rw [hu, Option.bind_some]
      rcases hu2 with ⟨k, hk, rfl⟩ | rfl
      · rw [if_neg (nI_pos (by omega))]; exact ChR.no (r := -2000000003) hK hH (by decide)
      · rw [if_pos (by decide)]
        rcases Nat.lt_or_ge S 8 with h8 | h8
        · rw [if_pos (show nI S < 8 from nI_lt (b := 8) h8 (by omega))]
          obtain ⟨hs', ol', ct', k1, k2⟩ := keep_ok hH hZ
          obtain ⟨z1, z2, z3, z4, z5, z6, z7⟩ := hZ
          rw [k1, Option.bind_some]
          unfold f_X2_appendSet
          rw [gd_n h8, nI_clamp (by omega), nI_1]
          exact ⟨nI (S + 1), N, S + 1, Q, pr, pu, ta, upd se S p, qu, hs', ol', ct', rfl, Nat.le_refl _, ⟨hC, by omega, hQ, hCn, hT, z1, z2, z3, z4.u h8 _, z5, z6, z7⟩, k2.hi, .inr ⟨gt_none (by omega), k2⟩⟩
        · rw [if_neg (show ¬ nI S < 8 from fun h => by rw [show (8 : Int32) = nI 8 from rfl, nI_ltI (by omega) (by omega)] at h; omega)]
          exact ChR.no (r := -2000000004) hK hH (by decide)
    · rw [if_neg c]; exact ChR.no (r := -2000000002) hK hH (by decide)
theorem remSet_of {k : Nat} (hS : S ≤ 8) (hk : k < S) (hz : zI 8 se) : ∃ se', f_X2_removeSet se (nI S) (nI k) = some (nI (S - 1), se', nI (S - 1)) ∧ zI 8 se' := by
  obtain ⟨r, e, hr⟩ := lp_run (b := f_X2_removeSet_b2 (nI S)) (fun i s => s.2 = nI i ∧ zI 8 s.1) (S - 1) (fun r => zI 8 r) (by
    rintro i ⟨z, y⟩ hi ⟨hy, hzz⟩
    replace hy : y = nI i := hy
    replace hzz : zI 8 z := hzz
    subst hy
    unfold f_X2_removeSet_b2
    dsimp only
    rw [am1 S (by omega)]
    rcases Nat.lt_or_ge i (S - 1) with hlt | hge
    · rw [if_neg (nI_ge hlt (by omega)), nI_1, gd_n (by omega), gd_n (by omega), nI_clamp (by omega), nI_clamp (by omega)]
      exact Or.inl ⟨hlt, _, rfl, rfl, hzz.u (by omega) _⟩
    · have hi : i = S - 1 := by omega
      subst hi
      rw [if_pos (nI_le (Nat.le_refl _) (by omega))]
      exact Or.inr ⟨_, rfl, hzz⟩) 1000 k (se, nI k) (by omega) (by omega) ⟨rfl, hz⟩
  unfold f_X2_removeSet
  rw [e, Option.bind_some, am1 S (by omega)]
  exact ⟨r, rfl, hr⟩
theorem allow_g (hK : OKs N S Q C pr pu ta se qu im su so) (hH : Hi hs ol ct) (p : Int32) :
    ChR N S Q C pr pu ta se qu im su so ((f_X4_allow pr pu ta qu im su (nI N) (nI Q) (nI C) so se (nI S) hs ol ct p).bind (fun q25 => some (q25.1, pr, pu, ta, q25.2.1, qu, nI N, q25.2.2.1, nI Q, q25.2.2.2.1, q25.2.2.2.2.1, q25.2.2.2.2.2))) := by
  obtain ⟨hC, hS, hQ, hCn, hT, hZ⟩ := id hK
  unfold f_X4_allow
  obtain ⟨u, hu, hu2⟩ := placeOf (se := se) hS p
  rw [hu, Option.bind_some]
  rcases hu2 with ⟨k, hk, rfl⟩ | rfl
  · rw [if_pos (show 0 ≤ nI k from nI_pos' (by omega))]
    obtain ⟨hs', ol', ct', k1, k2⟩ := keep_ok hH hZ
    obtain ⟨z1, z2, z3, z4, z5, z6, z7⟩ := hZ
    obtain ⟨se', e, hz⟩ := remSet_of hS hk z4
    rw [k1, Option.bind_some, e]
    exact ⟨nI (S - 1), N, S - 1, Q, pr, pu, ta, se', qu, hs', ol', ct', rfl, Nat.le_refl _, ⟨hC, by omega, hQ, hCn, hT, z1, z2, z3, hz, z5, z6, z7⟩, k2.hi, .inr ⟨gt_none (by omega), k2⟩⟩
  · rw [if_neg (by decide)]; exact ChR.no (r := -2000000003) hK hH (by decide)
theorem cancel_g (hK : OKs N S Q C pr pu ta se qu im su so) (hH : Hi hs ol ct) (p : Int32) :
    ChR N S Q C pr pu ta se qu im su so ((f_X4_cancel pr pu ta se im su (nI N) (nI S) (nI C) so qu (nI Q) hs ol ct p).bind (fun q34 => some (q34.1, pr, pu, ta, se, q34.2.1, nI N, nI S, q34.2.2.1, q34.2.2.2.1, q34.2.2.2.2.1, q34.2.2.2.2.2))) := by
  obtain ⟨hC, hS, hQ, hCn, hT, hZ⟩ := id hK
  unfold f_X4_cancel
  rcases isPlace Q hQ p with h | ⟨h, i, hi, rfl⟩
  · rw [h]; exact ChR.no (r := -2000000001) hK hH (by decide)
  · obtain ⟨hs', ol', ct', k1, k2⟩ := keep_ok hH hZ
    obtain ⟨z1, z2, z3, z4, z5, z6, z7⟩ := hZ
    obtain ⟨qu', e, hz⟩ := rem_of hQ hi z5
    rw [h, Option.bind_some, if_neg (by decide), k1, Option.bind_some, e]
    exact ⟨nI (Q - 1), N, S, Q - 1, pr, pu, ta, se, qu', hs', ol', ct', rfl, Nat.le_refl _, ⟨hC, hS, by omega, hCn, hT, z1, z2, z3, z4, hz, z6, z7⟩, k2.hi, .inr ⟨gt_none (by omega), k2⟩⟩
theorem ins_of (hQ : Q < 10) (hz : zI 30 qu) (a b c z : Int32) : ∃ qu', f_X2_insertRequest qu (nI Q) a b c z = some (qu', nI (Q + 1)) ∧ zI 30 qu' := by
  have e3 : nI Q * 3 = nI (3 * Q) := i3r Q
  have j52 : ∀ (f : Nat → Int32) (k : Nat), zI 30 f → k + 3 ≤ 30 → ∃ qu', f_X2_insertRequest_j52 f (nI Q) a b c (nI k) = some (qu', nI (Q + 1)) ∧ zI 30 qu' := by
    intro f k hf hk
    unfold f_X2_insertRequest_j52
    rw [nI_1, ap2, gd_n (by omega), gd_n (by omega), gd_n (by omega), nI_clamp (by omega), nI_clamp (by omega), nI_clamp (by omega), nI_1]
    exact ⟨_, rfl, ((hf.u (by omega) _).u (by omega) _).u (by omega) _⟩
  unfold f_X2_insertRequest
  rw [e3, ap3, if_pos (show nI (3 * Q + 3) ≤ 30 from nI_le (b := 30) (by omega) (by omega))]
  by_cases h : z = 0
  · rw [if_pos h]
    unfold f_X2_insertRequest_j41
    rw [if_pos h]
    exact j52 qu (3 * Q) hz (by omega)
  · have hc : cpk 0 3 (nI (3 * Q)) 30 30 = true := by
      unfold cpk
      refine decide_eq_true ⟨by decide, by decide, nI_pos (by omega), ?_, ?_⟩
      · rw [nI_clamp (by omega), show (0 : Int32).toNatClampNeg = 0 from rfl]; omega
      · rw [nI_clamp (by omega), show (3 : Int32).toNatClampNeg = 3 from rfl]; omega
    rw [if_neg h, gd_t hc]
    unfold f_X2_insertRequest_j41
    rw [if_neg h]
    refine j52 _ 0 (fun k hk => ?_) (by omega)
    rw [nI_clamp (by omega), show (3 : Int32).toNatClampNeg = 3 from rfl, pk_cpy_out (Or.inr (by omega))]
    exact hz k hk
theorem put_g (hK : OKs N S Q C pr pu ta se qu im su so) (hH : Hi hs ol ct) {a b c : Int32} (z : Int32) (h : f_X4_areAtMost a b c 2000 = some 1) :
    ChR N S Q C pr pu ta se qu im su so ((f_X4_putRequest pr pu ta se im su (nI N) (nI S) (nI C) so qu (nI Q) hs ol ct a b c z).bind (fun q44 => some (q44.1, pr, pu, ta, se, q44.2.1, nI N, nI S, q44.2.2.1, q44.2.2.2.1, q44.2.2.2.2.1, q44.2.2.2.2.2))) := by
  obtain ⟨hC, hS, hQ, hCn, hT, hZ⟩ := id hK
  unfold f_X4_putRequest
  rw [h, Option.bind_some, if_neg (by decide)]
  rcases Nat.lt_or_ge Q 10 with h10 | h10
  · obtain ⟨hs', ol', ct', k1, k2⟩ := keep_ok hH hZ
    obtain ⟨z1, z2, z3, z4, z5, z6, z7⟩ := hZ
    obtain ⟨qu', e, hz⟩ := ins_of h10 z5 a b c z
    rw [if_pos (show nI Q < 10 from nI_lt (b := 10) h10 (by omega)), k1, Option.bind_some, e]
    exact ⟨nI (Q + 1), N, S, Q + 1, pr, pu, ta, se, qu', hs', ol', ct', rfl, Nat.le_refl _, ⟨hC, hS, by omega, hCn, hT, z1, z2, z3, z4, hz, z6, z7⟩, k2.hi, .inr ⟨gt_none (by omega), k2⟩⟩
  · rw [if_neg (show ¬ nI Q < 10 from fun h => by rw [show (10 : Int32) = nI 10 from rfl, nI_ltI (by omega) (by omega)] at h; omega)]
    exact ChR.no (r := -2000000004) hK hH (by decide)
theorem sub_in {k m : Nat} (hk : k < 2 * m) (hm : m ≤ 600) {n : Int32} (hn : n = nI m) : (nI k - n).toInt = (k : Int) - m := by
  rw [hn]; exact pk_sub_toInt (by omega) (by omega)
theorem req_in {x y w : Int32} (hx : x.toInt.natAbs ≤ 600) (hy : y.toInt.natAbs ≤ 600) (hw : w.toInt.natAbs ≤ 600) : f_X4_areAtMost x y w 2000 = some 1 := by
  have e1 : (-(2000 : Int32)).toInt = -2000 := by decide
  have e2 : (2000 : Int32).toInt = 2000 := by decide
  exact areAt1 (by rw [e1, e2]; omega) (by rw [e1, e2]; omega) (by rw [e1, e2]; omega)
theorem change_ok (hK : OKs N S Q C pr pu ta se qu im su so) (hH : Hi hs ol ct) (z : Int32) :
    ChR N S Q C pr pu ta se qu im su so (f_L_changes im su (nI C) so pr pu ta se qu (nI N) (nI S) (nI Q) hs ol ct z) := by
  unfold f_L_changes
  obtain ⟨i, hi, ei⟩ := low_of (z >>> (4 &&& 31)) (n := 8) (by omega) (by omega)
  obtain ⟨k, hk, ek⟩ := low_of z (n := 11) (by omega) (by omega)
  rw [show (8 : Int32) = nI 8 from rfl, ei, Option.bind_some, show (11 : Int32) = nI 11 from rfl, ek, Option.bind_some]
  have l4 : ∀ n, 0 < n → n < 2 ^ 31 → ∀ s : Int32, ∃ k, k < n ∧ f_L_low (z >>> s) (nI n) = some (nI k) := fun n h1 h2 s => low_of _ h1 h2
  have add_ : ∀ (P : Option T12 → Prop), (∀ x, ChR N S Q C pr pu ta se qu im su so x → P x) → P ((f_L_low (z >>> (4 &&& 31)) (nI 21)).bind (fun q4 => (f_L_low (z >>> (9 &&& 31)) (nI 21)).bind (fun q5 => (f_L_low (z >>> (16 &&& 31)) (nI 10)).bind (fun q6 => (f_L_low (z >>> (21 &&& 31)) (nI 10)).bind (fun q7 => (f_X4_addThruster ta se qu im su (nI S) (nI Q) (nI C) so pr pu (nI N) hs ol ct (q4 - 10) (q5 - 10) ((z >>> (14 &&& 31)) &&& 3) (1 + q6) ((z >>> (20 &&& 31)) &&& 1) (1 + q7)).bind (fun q8 => some (q8.1, q8.2.1, q8.2.2.1, ta, se, qu, q8.2.2.2.1, nI S, nI Q, q8.2.2.2.2.1, q8.2.2.2.2.2.1, q8.2.2.2.2.2.2))))))) := by
    intro P hP
    obtain ⟨a, ha, ea⟩ := l4 21 (by omega) (by omega) (4 &&& 31)
    obtain ⟨b, hb, eb⟩ := l4 21 (by omega) (by omega) (9 &&& 31)
    obtain ⟨f, hf, ef⟩ := l4 10 (by omega) (by omega) (16 &&& 31)
    obtain ⟨w, hw, ew⟩ := l4 10 (by omega) (by omega) (21 &&& 31)
    obtain ⟨d, hd, ed⟩ := pk_andE (z >>> (14 &&& 31)) (m := 3) 2 (by decide)
    obtain ⟨t, ht, et⟩ := pk_andE (z >>> (20 &&& 31)) (m := 1) 1 (by decide)
    rw [ea, Option.bind_some, eb, Option.bind_some, ef, Option.bind_some, ew, Option.bind_some, ed, et]
    have b0 : (nI a - 10).toInt = (a : Int) - 10 := by
      rw [show (10 : Int32) = nI 10 from rfl]; exact pk_sub_toInt (by omega) (by omega)
    have b1 : (nI b - 10).toInt = (b : Int) - 10 := by
      rw [show (10 : Int32) = nI 10 from rfl]; exact pk_sub_toInt (by omega) (by omega)
    refine hP _ ?_
    rcases add_g hK hH (p0 := nI a - 10) (p1 := nI b - 10) (by rw [b0]; omega) (by rw [b1]; omega) hd hf ht hw with ⟨h8, pr', pu', hs', ol', ct', e, k1, k2⟩ | ⟨h8, e⟩
    · rw [e, Option.bind_some]
      exact ⟨nI N, N + 1, S, Q, pr', pu', ta, se, qu, hs', ol', ct', rfl, by omega, k1, k2.hi, .inr ⟨gt_none (by omega), k2⟩⟩
    · rw [e, Option.bind_some]
      exact ChR.no (r := -2000000004) hK hH (by decide)
  have req_ : ∀ (P : Option T12 → Prop) (g : Int32 → Int32 → Int32 → Option T12), (∀ x y w : Int32, x.toInt.natAbs ≤ 600 → y.toInt.natAbs ≤ 600 → w.toInt.natAbs ≤ 600 → P (g x y w)) → P ((f_L_low (z >>> (4 &&& 31)) (nI 600)).bind (fun q41 => (f_L_low (z >>> (9 &&& 31)) (nI 600)).bind (fun q42 => (f_L_low (z >>> (14 &&& 31)) (nI 1200)).bind (fun q43 => g (q41 - 300) (q42 - 300) (q43 - 600))))) := by
    intro P g hP
    obtain ⟨a, ha, ea⟩ := l4 600 (by omega) (by omega) (4 &&& 31)
    obtain ⟨b, hb, eb⟩ := l4 600 (by omega) (by omega) (9 &&& 31)
    obtain ⟨f, hf, ef⟩ := l4 1200 (by omega) (by omega) (14 &&& 31)
    rw [ea, Option.bind_some, eb, Option.bind_some, ef, Option.bind_some]
    refine hP _ _ _ ?_ ?_ ?_
    · have e : (nI a - 300).toInt = (a : Int) - (300 : Nat) := sub_in (by omega) (by omega) rfl
      omega
    · have e : (nI b - 300).toInt = (b : Int) - (300 : Nat) := sub_in (by omega) (by omega) rfl
      omega
    · have e : (nI f - 600).toInt = (f : Int) - (600 : Nat) := sub_in (by omega) (by omega) rfl
      omega
  have ne_ : ∀ j, j < 2 ^ 31 → ¬ k = j → ¬ nI k = nI j := fun j hj h e => h (nI_inj (by omega) hj e)
  by_cases c0 : k = 0
  · rw [if_pos (show nI k = 0 from by rw [c0]; rfl)]
    exact add_ (ChR N S Q C pr pu ta se qu im su so) (fun _ h => h)
  rw [if_neg (show ¬ nI k = 0 from ne_ 0 (by omega) c0)]
  by_cases c1 : k = 1
  · rw [if_pos (show nI k = 1 from by rw [c1]; rfl)]
    exact add_ (ChR N S Q C pr pu ta se qu im su so) (fun _ h => h)
  rw [if_neg (show ¬ nI k = 1 from ne_ 1 (by omega) c1)]
  by_cases c2 : k = 2
  · rw [if_pos (show nI k = 2 from by rw [c2]; rfl)]
    unfold f_L_changes_j153
    have s0 := setState_g hK hH hi (show 0 < 3 by decide)
    have s1 := setState_g hK hH hi (show 1 < 3 by decide)
    have s2 := setState_g hK hH hi (show 2 < 3 by decide)
    by_cases d3 : ((z >>> (7 &&& 31)) &&& 3) = 3
    · rw [if_pos d3]; exact s2
    · rw [if_neg d3]
      by_cases d2 : ((z >>> (7 &&& 31)) &&& 3) = 2
      · rw [if_pos d2]; exact s1
      · rw [if_neg d2]; exact s0
  rw [if_neg (show ¬ nI k = 2 from ne_ 2 (by omega) c2)]
  by_cases c3 : k = 3
  · rw [if_pos (show nI k = 3 from by rw [c3]; rfl)]
    obtain ⟨a, ha, ea⟩ := l4 256 (by omega) (by omega) (4 &&& 31)
    rw [show (256 : Int32) = nI 256 from rfl, ea, Option.bind_some]
    exact forbid_g hK hH _
  rw [if_neg (show ¬ nI k = 3 from ne_ 3 (by omega) c3)]
  by_cases c4 : k = 4
  · rw [if_pos (show nI k = 4 from by rw [c4]; rfl)]
    obtain ⟨a, ha, ea⟩ := l4 256 (by omega) (by omega) (4 &&& 31)
    rw [show (256 : Int32) = nI 256 from rfl, ea, Option.bind_some]
    exact allow_g hK hH _
  rw [if_neg (show ¬ nI k = 4 from ne_ 4 (by omega) c4)]
  by_cases c5 : k = 5
  · rw [if_pos (show nI k = 5 from by rw [c5]; rfl)]
    obtain ⟨t, ht, et⟩ := pk_andE (z >>> (4 &&& 31)) (m := 1) 1 (by decide)
    unfold f_L_changes_j221
    rw [et]
    by_cases d : ((z >>> (5 &&& 31)) &&& 3) = 0
    · rw [if_pos d]
      obtain ⟨a, ha, ea⟩ := l4 1500 (by omega) (by omega) (7 &&& 31)
      rw [show (1500 : Int32) = nI 1500 from rfl, ea, Option.bind_some]
      exact refuel_g hK hH ht (by omega)
    · rw [if_neg d]
      obtain ⟨a, ha, ea⟩ := l4 100001 (by omega) (by omega) (7 &&& 31)
      rw [show (100001 : Int32) = nI 100001 from rfl, ea, Option.bind_some]
      exact refuel_g hK hH ht (by omega)
  rw [if_neg (show ¬ nI k = 5 from ne_ 5 (by omega) c5)]
  by_cases c6 : k = 6
  · rw [if_pos (show nI k = 6 from by rw [c6]; rfl), ← show (11 : Int32) = nI 11 from rfl]
    obtain ⟨a, ha, ea⟩ := l4 11 (by omega) (by omega) (4 &&& 31)
    rw [show (11 : Int32) = nI 11 from rfl, ea, Option.bind_some]
    exact cancel_g hK hH _
  rw [if_neg (show ¬ nI k = 6 from ne_ 6 (by omega) c6)]
  have bd_ : ∀ {x : Option (Int32 × (Nat → Int32) × Int32 × (Nat → SV) × Int32 × Int32)} (f : Int32 × (Nat → Int32) × Int32 × (Nat → SV) × Int32 × Int32 → Option T12), (x.bind (fun q1 => some (q1.1, q1.2.1, q1.2.2.1, q1.2.2.2.1, q1.2.2.2.2.1, q1.2.2.2.2.2))).bind f = x.bind f := by
    intro x f
    cases x <;> rfl
  by_cases c7 : k = 7
  · rw [if_pos (show nI k = 7 from by rw [c7]; rfl)]
    refine req_ (ChR N S Q C pr pu ta se qu im su so) (fun x y w => (f_X4_urge pr pu ta se im su (nI N) (nI S) (nI C) so qu (nI Q) hs ol ct x y w).bind (fun q39 => some (q39.1, pr, pu, ta, se, q39.2.1, nI N, nI S, q39.2.2.1, q39.2.2.2.1, q39.2.2.2.2.1, q39.2.2.2.2.2))) (fun x y w hx hy hw => ?_)
    unfold f_X4_urge
    rw [bd_]
    exact put_g hK hH 1 (req_in hx hy hw)
  rw [if_neg (show ¬ nI k = 7 from ne_ 7 (by omega) c7)]
  refine req_ (ChR N S Q C pr pu ta se qu im su so) (fun x y w => (f_X4_request pr pu ta se im su (nI N) (nI S) (nI C) so qu (nI Q) hs ol ct x y w).bind (fun q44 => some (q44.1, pr, pu, ta, se, q44.2.1, nI N, nI S, q44.2.2.1, q44.2.2.2.1, q44.2.2.2.2.1, q44.2.2.2.2.2))) (fun x y w hx hy hw => ?_)
  unfold f_X4_request
  rw [bd_]
  exact put_g hK hH 0 (req_in hx hy hw)
end CH

def nn (x : Int32) : Prop := x.toBitVec.msb = false
theorem nn_or {x y : Int32} (h1 : nn x) (h2 : nn y) : nn (x ||| y) := by
  unfold nn at *
  rw [Int32.toBitVec_or, BitVec.msb_or, h1, h2]; rfl
theorem nn_lt {x : Int32} (h : nn x) : ¬ x < 0 := by
  unfold nn at h
  rw [BitVec.msb_eq_toInt] at h
  rw [Int32.lt_iff_toInt_lt]
  exact of_decide_eq_false h
theorem nn_sh : ∀ i, i < 8 → nn ((1 : Int32) <<< (nI i &&& 31)) := by unfold nn; decide +kernel
theorem nn_bit (p : Int64) {i : Nat} (hi : i < 8) : nn (bitOf p i) := by
  unfold bitOf
  split
  · unfold nn; decide
  · exact nn_sh i hi
def z8 (z : (Nat → Int64) × Int32) : Option (((Nat → Int64) × Int32) ⊕ (Nat → Int64)) := if 8 ≤ z.2 then (some (Sum.inr z.1)) else (gd (ib z.2 8) (some (Sum.inl ((vp_updL z.1 z.2.toNatClampNeg 0), (z.2 + 1)))))
theorem z8_ok (f : Nat → Int64) : ∃ r, lp z8 1000 (f, 0) = some r ∧ ∀ k, k < 8 → r k = 0 := by
  refine lp_run (fun k (s : (Nat → Int64) × Int32) => s.2 = nI k ∧ ∀ m, m < k → s.1 m = 0) 8 _ ?_ 1000 0 _ (by decide) (by decide) ⟨rfl, fun m hm => by omega⟩
  rintro k ⟨z, y⟩ hk ⟨hy, h1⟩
  replace hy : y = nI k := hy
  replace h1 : ∀ m, m < k → z m = 0 := h1
  subst hy
  unfold z8
  show (k < 8 ∧ ∃ s', (if (8 : Int32) ≤ nI k then _ else _) = _ ∧ _) ∨ (∃ r, (if (8 : Int32) ≤ nI k then _ else _) = _ ∧ _)
  by_cases c : k < 8
  · left
    refine ⟨c, ?_⟩
    rw [if_neg (show ¬ (8 : Int32) ≤ nI k from nI_ge (b := 8) c (by omega))]
    show ∃ s', gd (ib (nI k) 8) _ = _ ∧ _
    rw [gd_n c]
    refine ⟨_, rfl, nI_add k 1, fun m hm => ?_⟩
    show vp_updL z (nI k).toNatClampNeg 0 m = 0
    rw [nI_clamp (by omega)]
    by_cases e : m = k
    · subst e; exact uL
    · rw [uLn e]; exact h1 m (by omega)
  · have : k = 8 := by omega
    subst this
    right
    exact ⟨_, rfl, h1⟩
/-- the two selections, side by side -/
def SelR (pr : Nat → Int32) (N : Nat) (sh : Nat → Int64) (de co : Int64) (ma fo : Int32) (bes : Nat → Int64) (bwh bpr : Int64) (bse : Int32) : Prop :=
  (∀ k, k < 8 → sh k = bes k) ∧ de = bwh ∧ co = bpr ∧ ((fo = 0 ∧ bse = -1) ∨ (fo = 1 ∧ ma = bse ∧ ¬ bse < 0)) ∧ 0 < de.toInt ∧ de.toInt ≤ 120000 ∧ ∀ k, k < 8 → ¬ lg_cmp (sh k) 0 < 0 ∧ (sh k = 0 ∨ (fo = 1 ∧ k < N ∧ pr (7 * k + 6) = 0))
theorem clear_ok (sh : Nat → Int64) (de co : Int64) (ma fo : Int32) : ∃ r, f_X1_clear sh de co ma fo = some (r, 1, 0, 0, 0) ∧ ∀ k, k < 8 → r k = 0 := by
  obtain ⟨r, h1, h2⟩ := z8_ok sh
  refine ⟨r, ?_, h2⟩
  unfold f_X1_clear f_J7_fill_d0a16
  show ((lp z8 1000 (sh, 0)).bind _).bind _ = _
  rw [h1]; rfl
theorem pos_nn {p a : Int64} (h : ¬ pos p a = 0) : ¬ lg_cmp p 0 < 0 := by
  intro c; exact h (if_pos c)
theorem tp_of {pr ta row : Nat → Int32} {N x : Nat} (hC : Cur pr ta row N) (hx : x < N) {tp : Nat → Int32} (hT : Tp pr ta N tp) {d : Int32} (hd : f_X5_dear row (nI x) = some d) : (pr (7 * x + 3)).toInt64 * d.toInt64 = (tp x).toInt64 := by
  obtain ⟨d', hd', p1, p2⟩ := price_of hC hx
  have e1 : d = d' := Option.some.inj (hd.symm.trans p2)
  have e2 : tp x = pr (7 * x + 3) * d' := Option.some.inj ((hT x hx).symm.trans p1)
  obtain ⟨-, -, -, ⟨f, f1, f2, e3⟩, -⟩ := hC.2.2.2 x hx
  subst e1
  rw [e2, e3]
  have : ∀ f, f < 11 → (nI f).toInt64 * (1 : Int32).toInt64 = (nI f * 1).toInt64 ∧ (nI f).toInt64 * (2 : Int32).toInt64 = (nI f * 2).toInt64 := by decide +kernel
  rcases hd' with h | h
  · rw [h]; exact (this f (by omega)).1
  · rw [h]; exact (this f (by omega)).2
theorem look3 {pr ta row : Nat → Int32} {N i j k : Nat} (hC : Cur pr ta row N) (hi : i < N) (hj : j < N) (hk : k < N) {tp : Nat → Int32} (hT : Tp pr ta N tp) (D d0 d1 d2 : Int64) (tic : Nat → Int64) :
    ∃ t, lp (f_X5_looksAt_b140 row (nI i) (nI j) (nI k) D) 1000 (vp_updL (vp_updL (vp_updL tic 0 d0) 1 d1) 2 d2, 0, 0, 1, 0) = some (t, Mk3 i j k (sg D d0) (sg D d1) (sg D d2), Pc tp i j k (sg D d0) (sg D d1) (sg D d2), (if (if pos (sg D d0) (sg D D) = 0 then 0 else pos (sg D d1) (sg D D)) = 0 then 0 else pos (sg D d2) (sg D D))) ∧ t 0 = sg D d0 ∧ t 1 = sg D d1 ∧ t 2 = sg D d2 := by
  have s : ∀ n z w, f_X5_looksAt_b140 row (nI i) (nI j) (nI k) D z = some (Sum.inl w) → lp (f_X5_looksAt_b140 row (nI i) (nI j) (nI k) D) (n + 1) z = lp (f_X5_looksAt_b140 row (nI i) (nI j) (nI k) D) n w := by
    intro n z w h
    show (f_X5_looksAt_b140 row (nI i) (nI j) (nI k) D z).bind _ = _
    rw [h]; rfl
  have z3 : ∀ n t a b f, lp (f_X5_looksAt_b140 row (nI i) (nI j) (nI k) D) (n + 1) (t, a, b, f, nI 3) = some (t, a, b, f) := fun n t a b f => rfl
  have pv : ∀ x y, pos x y = 0 ∨ pos x y = 1 := by
    intro x y
    unfold pos; split
    · exact .inl rfl
    · split
      · exact .inl rfl
      · exact .inr rfl
  have fv : ∀ x y : Int64, ∀ f : Int32, (if f = 0 then (0 : Int32) else pos x y) = 0 ∨ (if f = 0 then (0 : Int32) else pos x y) = 1 := by
    intro x y f
    split
    · exact .inl rfl
    · exact pv x y
  have st : ∀ m x, m < 3 → mem3 i j k m = x → x < N → ∀ t v ma pc fl, t m = v → (fl = 0 ∨ fl = 1) → f_X5_looksAt_b140 row (nI i) (nI j) (nI k) D (t, ma, pc, fl, nI m) = some (Sum.inl (vp_updL t m (sg D v), ma ||| bitOf (sg D v) x, pc + sg D v * (tp x).toInt64, (if fl = 0 then 0 else pos (sg D v) (sg D D)), nI (m + 1))) := by
    intro m x hm hx hxN t v ma pc fl hv hf
    obtain ⟨d, hd, l⟩ := look1 hC hi hj hk D m hm t ma pc fl hf
    rw [hx] at hd l
    rw [l, hv, ← tp_of hC hxN hT hd, Int64.mul_assoc]
  have a0 := st 0 i (by decide) rfl hi (vp_updL (vp_updL (vp_updL tic 0 d0) 1 d1) 2 d2) d0 0 0 1 rfl (.inr rfl)
  have a1 := st 1 j (by decide) rfl hj (vp_updL (vp_updL (vp_updL (vp_updL tic 0 d0) 1 d1) 2 d2) 0 (sg D d0)) d1 (0 ||| bitOf (sg D d0) i) (0 + sg D d0 * (tp i).toInt64) (pos (sg D d0) (sg D D)) rfl (pv _ _)
  have a2 := st 2 k (by decide) rfl hk (vp_updL (vp_updL (vp_updL (vp_updL (vp_updL tic 0 d0) 1 d1) 2 d2) 0 (sg D d0)) 1 (sg D d1)) d2 ((0 ||| bitOf (sg D d0) i) ||| bitOf (sg D d1) j) (0 + sg D d0 * (tp i).toInt64 + sg D d1 * (tp j).toInt64) (if pos (sg D d0) (sg D D) = 0 then 0 else pos (sg D d1) (sg D D)) rfl (fv _ _ _)
  rw [if_neg (by decide)] at a0
  refine ⟨vp_updL (vp_updL (vp_updL (vp_updL (vp_updL (vp_updL tic 0 d0) 1 d1) 2 d2) 0 (sg D d0)) 1 (sg D d1)) 2 (sg D d2), ?_, rfl, rfl, rfl⟩
  show lp _ 1000 (_, 0, 0, 1, nI 0) = _
  rw [s 999 _ _ a0, s 998 _ _ a1, s 997 _ _ a2, z3 996]
  unfold Mk3 Pc
  rw [Int32.zero_or, Int64.zero_add]
theorem look_rel {pr ta row se : Nat → Int32} {N S i j k : Nat} (hC : Cur pr ta row N) (hi : i < N) (hj : j < N) (hk : k < N) (hS : S ≤ 8) (h59 : row 59 = nI S) (hq : ∀ m, m < 8 → row (60 + m) = se m)
    {un : Nat → Nat → Int32} {tp : Nat → Int32} {ru : Int32} (hU : Un pr N un) (hT : Tp pr ta N tp) (hr : f_X5_running row = some ru) {goa : Nat → Int64} (hG : ∀ m, m < 3 → (un 8 m).toInt64 = goa m)
    (ui : pr (7 * i + 6) = 0) (uj : pr (7 * j + 6) = 0) (uk : pr (7 * k + 6) = 0)
    {sh : Nat → Int64} {de co : Int64} {ma fo : Int32} {bes : Nat → Int64} {bwh bpr : Int64} {bse : Int32} (tab tic : Nat → Int64) (hR : SelR pr N sh de co ma fo bes bwh bpr bse) :
    ∃ c r, f_X1_consider un tp ru se (nI S) sh de co ma fo (nI i) (nI j) (nI k) = some c ∧ f_X5_looksAt row goa tab bes tic bwh bpr bse (nI i) (nI j) (nI k) = some r ∧ SelR pr N c.1 c.2.1 c.2.2.1 c.2.2.2.1 c.2.2.2.2 r.2.1 r.2.2.2.1 r.2.2.2.2.1 r.2.2.2.2.2 := by
  have hN := hC.2.2.1
  have eD : f_X1_determinantOf un (nI i) (nI j) (nI k) = some (det (wP pr i) (wP pr j) (wP pr k)) := by
    rw [detOf_ok _ _ _ _ (by omega) (by omega) (by omega)]
    exact congrArg some (det_c (fun m hm => congrArg _ (hU i hi m hm)) (fun m hm => congrArg _ (hU j hj m hm)) (fun m hm => congrArg _ (hU k hk m hm)))
  have e0 : f_X1_determinantOf un 8 (nI j) (nI k) = some (det goa (wP pr j) (wP pr k)) := by
    show f_X1_determinantOf un (nI 8) (nI j) (nI k) = _
    rw [detOf_ok _ _ _ _ (by omega) (by omega) (by omega)]
    exact congrArg some (det_c hG (fun m hm => congrArg _ (hU j hj m hm)) (fun m hm => congrArg _ (hU k hk m hm)))
  have e1 : f_X1_determinantOf un (nI i) 8 (nI k) = some (det (wP pr i) goa (wP pr k)) := by
    show f_X1_determinantOf un (nI i) (nI 8) (nI k) = _
    rw [detOf_ok _ _ _ _ (by omega) (by omega) (by omega)]
    exact congrArg some (det_c (fun m hm => congrArg _ (hU i hi m hm)) hG (fun m hm => congrArg _ (hU k hk m hm)))
  have e2 : f_X1_determinantOf un (nI i) (nI j) 8 = some (det (wP pr i) (wP pr j) goa) := by
    show f_X1_determinantOf un (nI i) (nI j) (nI 8) = _
    rw [detOf_ok _ _ _ _ (by omega) (by omega) (by omega)]
    exact congrArg some (det_c (fun m hm => congrArg _ (hU i hi m hm)) (fun m hm => congrArg _ (hU j hj m hm)) hG)
  have bD : bd (det (wP pr i) (wP pr j) (wP pr k)) 120000 := det_bd (unit_bd (hC.2.2.2 i hi)) (unit_bd (hC.2.2.2 j hj)) (unit_bd (hC.2.2.2 k hk))
  obtain ⟨T, hT6⟩ := tabs_ok hC hi hj hk tab tic goa
  rw [cons_ok (by omega) (by omega) (by omega) eD e0 e1 e2]
  unfold f_X5_looksAt
  rw [hT6, Option.bind_some]
  clear hT6 eD e0 e1 e2
  generalize det (wP pr i) (wP pr j) (wP pr k) = D at bD ⊢
  generalize det goa (wP pr j) (wP pr k) = d0
  generalize det (wP pr i) goa (wP pr k) = d1
  generalize det (wP pr i) (wP pr j) goa = d2
  dsimp only
  by_cases c : lg_cmp D 0 = 0
  · rw [if_pos c, if_pos c]; exact ⟨_, _, rfl, rfl, hR⟩
  · rw [if_neg c, if_neg c]
    have hab := abs_bd bD (by decide) c
    obtain ⟨t, L, t0, t1, t2⟩ := look3 hC hi hj hk hT D d0 d1 d2 tic
    rw [L, Option.bind_some]
    dsimp only
    have pick : ∀ a, (if 0 ≤ lg_cmp D 0 then f_X5_looksAt_j317 row T bes t bwh bpr bse (nI i) (nI j) (nI k) (Mk3 i j k (sg D d0) (sg D d1) (sg D d2)) (Pc tp i j k (sg D d0) (sg D d1) (sg D d2)) a D else f_X5_looksAt_j317 row T bes t bwh bpr bse (nI i) (nI j) (nI k) (Mk3 i j k (sg D d0) (sg D d1) (sg D d2)) (Pc tp i j k (sg D d0) (sg D d1) (sg D d2)) a (-D)) = f_X5_looksAt_j317 row T bes t bwh bpr bse (nI i) (nI j) (nI k) (Mk3 i j k (sg D d0) (sg D d1) (sg D d2)) (Pc tp i j k (sg D d0) (sg D d1) (sg D d2)) a (sg D D) := by
      intro a
      show _ = f_X5_looksAt_j317 row T bes t bwh bpr bse (nI i) (nI j) (nI k) _ _ a (if 0 ≤ lg_cmp D 0 then D else -D)
      split <;> rfl
    rw [pick]
    have hma : nn (Mk3 i j k (sg D d0) (sg D d1) (sg D d2)) := nn_or (nn_or (nn_bit _ (by omega)) (nn_bit _ (by omega))) (nn_bit _ (by omega))
    generalize sg D D = a at hab ⊢
    generalize Mk3 i j k (sg D d0) (sg D d1) (sg D d2) = M at hma ⊢
    generalize Pc tp i j k (sg D d0) (sg D d1) (sg D d2) = V
    generalize sg D d0 = p0 at t0 ⊢
    generalize sg D d1 = p1 at t1 ⊢
    generalize sg D d2 = p2 at t2 ⊢
    -- the reference, by what it decides
    have J : ∀ f, (∃ t0, (t0 = 1 ∨ t0 = 0) ∧ f_X5_looksAt_j317 row T bes t bwh bpr bse (nI i) (nI j) (nI k) M V f a = f_X5_looksAt_j376 row T bes t bwh bpr bse (nI i) (nI j) (nI k) M V f a t0 ∧ (t0 = 1 ↔ (bse < 0 ∨ lg_cmp (V * bwh) (bpr * a) < 0 ∨ (lg_cmp (V * bwh) (bpr * a) = 0 ∧ ¬ bse ≤ M)))) := by
      intro f
      unfold f_X5_looksAt_j317
      by_cases c1 : bse < 0
      · exact ⟨1, .inl rfl, by rw [if_pos c1]; rfl, by simp [c1]⟩
      · by_cases c2 : lg_cmp (V * bwh) (bpr * a) < 0
        · exact ⟨1, .inl rfl, by rw [if_neg c1, if_pos c2]; rfl, by simp [c2]⟩
        · by_cases c3 : lg_cmp (V * bwh) (bpr * a) = 0
          · by_cases c4 : bse ≤ M
            · exact ⟨0, .inr rfl, by rw [if_neg c1, if_neg c2, if_pos c3, if_pos c4]; rfl, by simp [c1, c2, c4]⟩
            · exact ⟨1, .inl rfl, by rw [if_neg c1, if_neg c2, if_pos c3, if_neg c4]; rfl, by simp [c3, c4]⟩
          · exact ⟨0, .inr rfl, by rw [if_neg c1, if_neg c2, if_neg c3]; rfl, by simp [c1, c2, c3]⟩
    have bad : ∀ t0, f_X5_looksAt_j376 row T bes t bwh bpr bse (nI i) (nI j) (nI k) M V 0 a t0 = some (T, bes, t, bwh, bpr, bse) := fun t0 => if_pos rfl
    by_cases q0 : pos p0 a = 0
    · rw [if_pos q0, if_pos q0, if_pos rfl]
      obtain ⟨x, -, e, -⟩ := J 0
      rw [e, bad]; exact ⟨_, _, rfl, rfl, hR⟩
    · rw [if_neg q0, if_neg q0]
      by_cases q1 : pos p1 a = 0
      · rw [if_pos q1, if_pos q1]
        obtain ⟨x, -, e, -⟩ := J 0
        rw [e, bad]; exact ⟨_, _, rfl, rfl, hR⟩
      · rw [if_neg q1, if_neg q1]
        by_cases q2 : pos p2 a = 0
        · rw [if_pos q2, q2]
          obtain ⟨x, -, e, -⟩ := J 0
          rw [e, bad]; exact ⟨_, _, rfl, rfl, hR⟩
        · rw [if_neg q2]
          obtain ⟨x, hx, e, hb⟩ := J (pos p2 a)
          rw [e]
          unfold f_X5_looksAt_j376
          rw [if_neg q2]
          obtain ⟨u, u1, u2, hu⟩ := forb_of hS h59 hq (M ||| ru)
          have hbad : f_X5_isBad row M = some u := by
            unfold f_X5_isBad
            rw [hr, Option.bind_some, u2]
            rcases hu with h | h <;> (rw [h]; rfl)
          rw [u1, hbad]
          simp only [Option.bind_some]
          by_cases cu : u = 0
          · rw [if_pos cu, if_pos cu]
            -- the new best
            have NEW : ∃ c r, f_X1_consider_j239 sh de co ma fo (nI i) (nI j) (nI k) a p0 p1 p2 M V = some c ∧ ((lp f_X5_looksAt_b418 1000 (bes, 0)).bind (fun q49 => gd (ib 0 3) (gd (ib (nI i) 8) (gd (ib 1 3) (gd (ib (nI j) 8) (gd (ib 2 3) (gd (ib (nI k) 8) (some (T, (vp_updL (vp_updL (vp_updL q49 (nI i).toNatClampNeg (t (0 : Int32).toNatClampNeg)) (nI j).toNatClampNeg (t (1 : Int32).toNatClampNeg)) (nI k).toNatClampNeg (t (2 : Int32).toNatClampNeg)), t, a, V, M))))))))) = some r ∧ SelR pr N c.1 c.2.1 c.2.2.1 c.2.2.2.1 c.2.2.2.2 r.2.1 r.2.2.2.1 r.2.2.2.2.1 r.2.2.2.2.2 := by
              obtain ⟨r1, h1, h1'⟩ := clear_ok sh de co ma fo
              obtain ⟨r2, h2, h2'⟩ := z8_ok bes
              refine ⟨(vp_updL (vp_updL (vp_updL r1 i p0) j p1) k p2, a, V, M, 1), (T, vp_updL (vp_updL (vp_updL r2 i p0) j p1) k p2, t, a, V, M), ?_, ?_, ?_⟩
              · unfold f_X1_consider_j239
                rw [h1, Option.bind_some, gd_n (by omega), gd_n (by omega), gd_n (by omega), nI_clamp (by omega), nI_clamp (by omega), nI_clamp (by omega)]
              · show (lp z8 1000 (bes, 0)).bind _ = _
                rw [h2, Option.bind_some, gd_n (k := i) (by omega), gd_n (k := j) (by omega), gd_n (k := k) (by omega), nI_clamp (by omega), nI_clamp (by omega), nI_clamp (by omega), ← t0, ← t1, ← t2]
                rfl
              · refine ⟨fun m hm => ?_, rfl, rfl, .inr ⟨rfl, rfl, nn_lt hma⟩, hab.1, hab.2, fun m hm => ?_⟩
                · show vp_updL (vp_updL (vp_updL r1 i p0) j p1) k p2 m = vp_updL (vp_updL (vp_updL r2 i p0) j p1) k p2 m
                  by_cases m1 : m = k
                  · subst m1; rw [uL, uL]
                  · rw [uLn m1, uLn m1]
                    by_cases m2 : m = j
                    · subst m2; rw [uL, uL]
                    · rw [uLn m2, uLn m2]
                      by_cases m3 : m = i
                      · subst m3; rw [uL, uL]
                      · rw [uLn m3, uLn m3, h1' m hm, h2' m hm]
                · show ¬ lg_cmp (vp_updL (vp_updL (vp_updL r1 i p0) j p1) k p2 m) 0 < 0 ∧ (vp_updL (vp_updL (vp_updL r1 i p0) j p1) k p2 m = 0 ∨ _)
                  by_cases m1 : m = k
                  · subst m1; rw [uL]; exact ⟨pos_nn q2, .inr ⟨rfl, hk, uk⟩⟩
                  · rw [uLn m1]
                    by_cases m2 : m = j
                    · subst m2; rw [uL]; exact ⟨pos_nn q1, .inr ⟨rfl, hj, uj⟩⟩
                    · rw [uLn m2]
                      by_cases m3 : m = i
                      · subst m3; rw [uL]; exact ⟨pos_nn q0, .inr ⟨rfl, hi, ui⟩⟩
                      · rw [uLn m3, h1' m hm]; exact ⟨by decide, .inl rfl⟩
            obtain ⟨hRs, rfl, rfl, hfo, hR5⟩ := hR
            rcases hfo with ⟨rfl, rfl⟩ | ⟨rfl, rfl, hb0⟩
            · have : x = 1 := hb.mpr (.inl (by decide))
              subst this
              rw [if_pos rfl, if_neg (by decide)]
              exact NEW
            · rw [if_neg (by decide)]
              unfold f_X1_isBetter
              by_cases c2 : lg_cmp (V * de) (co * a) < 0
              · have : x = 1 := hb.mpr (.inr (.inl c2))
                subst this
                rw [if_pos c2, Option.bind_some, if_neg (by decide), if_neg (by decide)]
                exact NEW
              · rw [if_neg c2]
                by_cases c3 : lg_cmp (V * de) (co * a) = 0
                · rw [if_pos c3]
                  by_cases c4 : ma ≤ M
                  · have : x = 0 := by
                      rcases hx with h | h
                      · rcases hb.mp h with h | h | h
                        · exact absurd h hb0
                        · exact absurd h c2
                        · exact absurd c4 h.2
                      · exact h
                    subst this
                    rw [if_pos c4, Option.bind_some, if_pos rfl, if_pos rfl]
                    exact ⟨_, _, rfl, rfl, hRs, rfl, rfl, .inr ⟨rfl, rfl, hb0⟩, hR5⟩
                  · have : x = 1 := hb.mpr (.inr (.inr ⟨c3, c4⟩))
                    subst this
                    rw [if_neg c4, Option.bind_some, if_neg (by decide), if_neg (by decide)]
                    exact NEW
                · have : x = 0 := by
                    rcases hx with h | h
                    · rcases hb.mp h with h | h | h
                      · exact absurd h hb0
                      · exact absurd h c2
                      · exact absurd h.1 c3
                    · exact h
                  subst this
                  rw [if_neg c3, Option.bind_some, if_pos rfl, if_pos rfl]
                  exact ⟨_, _, rfl, rfl, hRs, rfl, rfl, .inr ⟨rfl, rfl, hb0⟩, hR5⟩
          · rw [if_neg cu, if_neg cu]
            exact ⟨_, _, rfl, rfl, hR⟩


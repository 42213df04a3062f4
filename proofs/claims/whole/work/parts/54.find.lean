def SR (pr : Nat → Int32) (N : Nat) (c : (Nat → Int64) × Int64 × Int64 × Int32 × Int32) (r : (Nat → Int64) × (Nat → Int64) × (Nat → Int64) × Int64 × Int64 × Int32) : Prop :=
  SelR pr N c.1 c.2.1 c.2.2.1 c.2.2.2.1 c.2.2.2.2 r.2.1 r.2.2.2.1 r.2.2.2.2.1 r.2.2.2.2.2
/-- what the searches read -/
def Rd (pr ta row se : Nat → Int32) (N S : Nat) (un : Nat → Nat → Int32) (tp : Nat → Int32) (ru : Int32) (goa : Nat → Int64) : Prop :=
  Cur pr ta row N ∧ row 0 = nI N ∧ S ≤ 8 ∧ row 59 = nI S ∧ (∀ m, m < 8 → row (60 + m) = se m) ∧ Un pr N un ∧ Tp pr ta N tp ∧ f_X5_running row = some ru ∧ ∀ m, m < 3 → (un 8 m).toInt64 = goa m
theorem find3 {pr ta row se : Nat → Int32} {N S : Nat} {un : Nat → Nat → Int32} {tp : Nat → Int32} {ru : Int32} {goa : Nat → Int64} (h : Rd pr ta row se N S un tp ru goa) {i j : Nat} (hi : i < N) (hj : j < N) (k0 : Nat) (hk0 : k0 ≤ N)
    (c : (Nat → Int64) × Int64 × Int64 × Int32 × Int32) (r : (Nat → Int64) × (Nat → Int64) × (Nat → Int64) × Int64 × Int64 × Int32) (hR : SR pr N c r) :
    ∃ c' r', lp (f_X1_find_b92 pr ta se (nI N) (nI S) un tp ru (nI i) (nI j)) 1000 (c.1, c.2.1, c.2.2.1, c.2.2.2.1, c.2.2.2.2, nI k0) = some c' ∧ lp (f_X5_finds_b106 row goa (nI i) (nI j)) 1000 (r.1, r.2.1, r.2.2.1, r.2.2.2.1, r.2.2.2.2.1, r.2.2.2.2.2, nI k0) = some r' ∧ SR pr N c' r' := by
  obtain ⟨hC, e2, hS, h59, hq, hU, hT, hr, hG⟩ := h
  have hN := hC.2.2.1
  refine lp_rel (fun k (s1 : (Nat → Int64) × Int64 × Int64 × Int32 × Int32 × Int32) (s2 : (Nat → Int64) × (Nat → Int64) × (Nat → Int64) × Int64 × Int64 × Int32 × Int32) => s1.2.2.2.2.2 = nI k ∧ s2.2.2.2.2.2.2 = nI k ∧ SelR pr N s1.1 s1.2.1 s1.2.2.1 s1.2.2.2.1 s1.2.2.2.2.1 s2.2.1 s2.2.2.2.1 s2.2.2.2.2.1 s2.2.2.2.2.2.1) N (SR pr N) ?_ 1000 k0 _ _ hk0 (by omega) ⟨rfl, rfl, hR⟩
  rintro k ⟨sh, de, co, ma, fo, y1⟩ ⟨tab, bes, tic, bwh, bpr, bse, y2⟩ hk ⟨g1, g2, hJ⟩
  replace g1 : y1 = nI k := g1
  replace g2 : y2 = nI k := g2
  replace hJ : SelR pr N sh de co ma fo bes bwh bpr bse := hJ
  subst g1 g2
  unfold f_X1_find_b92 f_X5_finds_b106
  dsimp only
  rw [show (row (0 : Int32).toNatClampNeg) = nI N from e2, gd_t (show ib 0 708 = true from by decide)]
  by_cases c : k < N
  · left
    refine ⟨c, ?_⟩
    rw [if_neg (nI_ge c (by omega)), if_neg (nI_ge c (by omega))]
    obtain ⟨u1, a1, b1, v1, w1⟩ := usable_of hC hi
    obtain ⟨u2, a2, b2, v2, w2⟩ := usable_of hC hj
    obtain ⟨u3, a3, b3, v3, w3⟩ := usable_of hC c
    rw [a1, b1, a2, b2, a3, b3]
    simp only [Option.bind_some]
    rcases v1 with rfl | rfl
    · exact ⟨_, _, rfl, rfl, nI_add k 1, nI_add k 1, hJ⟩
    · rcases v2 with rfl | rfl
      · exact ⟨_, _, rfl, rfl, nI_add k 1, nI_add k 1, hJ⟩
      · rcases v3 with rfl | rfl
        · exact ⟨_, _, rfl, rfl, nI_add k 1, nI_add k 1, hJ⟩
        · simp only [n10, ↓reduceIte]
          obtain ⟨c', r', x1, x2, x3⟩ := look_rel hC hi hj c hS h59 hq hU hT hr hG (w1 rfl) (w2 rfl) (w3 rfl) tab tic hJ
          rw [x1, x2]
          exact ⟨_, _, rfl, rfl, nI_add k 1, nI_add k 1, x3⟩
  · right
    have : k = N := by omega
    subst this
    rw [if_pos (Int32.le_refl _), if_pos (Int32.le_refl _)]
    exact ⟨_, _, rfl, rfl, hJ⟩
theorem find2 {pr ta row se : Nat → Int32} {N S : Nat} {un : Nat → Nat → Int32} {tp : Nat → Int32} {ru : Int32} {goa : Nat → Int64} (h : Rd pr ta row se N S un tp ru goa) {i : Nat} (hi : i < N) (k0 : Nat) (hk0 : k0 ≤ N)
    (c : (Nat → Int64) × Int64 × Int64 × Int32 × Int32) (r : (Nat → Int64) × (Nat → Int64) × (Nat → Int64) × Int64 × Int64 × Int32) (hR : SR pr N c r) :
    ∃ c' r', lp (f_X1_find_b77 pr ta se (nI N) (nI S) un tp ru (nI i)) 1000 (c.1, c.2.1, c.2.2.1, c.2.2.2.1, c.2.2.2.2, nI k0) = some c' ∧ lp (f_X5_finds_b92 row goa (nI i)) 1000 (r.1, r.2.1, r.2.2.1, r.2.2.2.1, r.2.2.2.2.1, r.2.2.2.2.2, nI k0) = some r' ∧ SR pr N c' r' := by
  have hN := h.1.2.2.1
  have e2 := h.2.1
  refine lp_rel (fun k (s1 : (Nat → Int64) × Int64 × Int64 × Int32 × Int32 × Int32) (s2 : (Nat → Int64) × (Nat → Int64) × (Nat → Int64) × Int64 × Int64 × Int32 × Int32) => s1.2.2.2.2.2 = nI k ∧ s2.2.2.2.2.2.2 = nI k ∧ SelR pr N s1.1 s1.2.1 s1.2.2.1 s1.2.2.2.1 s1.2.2.2.2.1 s2.2.1 s2.2.2.2.1 s2.2.2.2.2.1 s2.2.2.2.2.2.1) N (SR pr N) ?_ 1000 k0 _ _ hk0 (by omega) ⟨rfl, rfl, hR⟩
  rintro k ⟨sh, de, co, ma, fo, y1⟩ ⟨tab, bes, tic, bwh, bpr, bse, y2⟩ hk ⟨g1, g2, hJ⟩
  replace g1 : y1 = nI k := g1
  replace g2 : y2 = nI k := g2
  replace hJ : SelR pr N sh de co ma fo bes bwh bpr bse := hJ
  subst g1 g2
  unfold f_X1_find_b77 f_X5_finds_b92
  dsimp only
  rw [show (row (0 : Int32).toNatClampNeg) = nI N from e2, gd_t (show ib 0 708 = true from by decide)]
  by_cases c : k < N
  · left
    refine ⟨c, ?_⟩
    rw [if_neg (nI_ge c (by omega)), if_neg (nI_ge c (by omega))]
    obtain ⟨c', r', x1, x2, x3⟩ := find3 h hi c (k + 1) c (sh, de, co, ma, fo) (tab, bes, tic, bwh, bpr, bse) hJ
    rw [show nI k + 1 = nI (k + 1) from nI_add k 1]
    dsimp only at x1 x2
    rw [x1, x2]
    exact ⟨_, _, rfl, rfl, rfl, rfl, x3⟩
  · right
    have : k = N := by omega
    subst this
    rw [if_pos (Int32.le_refl _), if_pos (Int32.le_refl _)]
    exact ⟨_, _, rfl, rfl, hJ⟩
theorem find1 {pr ta row se : Nat → Int32} {N S : Nat} {un : Nat → Nat → Int32} {tp : Nat → Int32} {ru : Int32} {goa : Nat → Int64} (h : Rd pr ta row se N S un tp ru goa)
    (c : (Nat → Int64) × Int64 × Int64 × Int32 × Int32) (r : (Nat → Int64) × (Nat → Int64) × (Nat → Int64) × Int64 × Int64 × Int32) (hR : SR pr N c r) :
    ∃ c' r', lp (f_X1_find_b62 pr ta se (nI N) (nI S) un tp ru) 1000 (c.1, c.2.1, c.2.2.1, c.2.2.2.1, c.2.2.2.2, 0) = some c' ∧ lp (f_X5_finds_b78 row goa) 1000 (r.1, r.2.1, r.2.2.1, r.2.2.2.1, r.2.2.2.2.1, r.2.2.2.2.2, 0) = some r' ∧ SR pr N c' r' := by
  have hN := h.1.2.2.1
  have e2 := h.2.1
  refine lp_rel (fun k (s1 : (Nat → Int64) × Int64 × Int64 × Int32 × Int32 × Int32) (s2 : (Nat → Int64) × (Nat → Int64) × (Nat → Int64) × Int64 × Int64 × Int32 × Int32) => s1.2.2.2.2.2 = nI k ∧ s2.2.2.2.2.2.2 = nI k ∧ SelR pr N s1.1 s1.2.1 s1.2.2.1 s1.2.2.2.1 s1.2.2.2.2.1 s2.2.1 s2.2.2.2.1 s2.2.2.2.2.1 s2.2.2.2.2.2.1) N (SR pr N) ?_ 1000 0 _ _ (by omega) (by omega) ⟨rfl, rfl, hR⟩
  rintro k ⟨sh, de, co, ma, fo, y1⟩ ⟨tab, bes, tic, bwh, bpr, bse, y2⟩ hk ⟨g1, g2, hJ⟩
  replace g1 : y1 = nI k := g1
  replace g2 : y2 = nI k := g2
  replace hJ : SelR pr N sh de co ma fo bes bwh bpr bse := hJ
  subst g1 g2
  unfold f_X1_find_b62 f_X5_finds_b78
  dsimp only
  rw [show (row (0 : Int32).toNatClampNeg) = nI N from e2, gd_t (show ib 0 708 = true from by decide)]
  by_cases c : k < N
  · left
    refine ⟨c, ?_⟩
    rw [if_neg (nI_ge c (by omega)), if_neg (nI_ge c (by omega))]
    obtain ⟨c', r', x1, x2, x3⟩ := find2 h c (k + 1) c (sh, de, co, ma, fo) (tab, bes, tic, bwh, bpr, bse) hJ
    rw [show nI k + 1 = nI (k + 1) from nI_add k 1]
    dsimp only at x1 x2
    rw [x1, x2]
    exact ⟨_, _, rfl, rfl, rfl, rfl, x3⟩
  · right
    have : k = N := by omega
    subst this
    rw [if_pos (Int32.le_refl _), if_pos (Int32.le_refl _)]
    exact ⟨_, _, rfl, rfl, hJ⟩
/-- what the searches find -/
def FR (pr : Nat → Int32) (N : Nat) (c : (Nat → Nat → Int32) × (Nat → Int32) × (Nat → Int64) × Int64 × Int64 × Int32 × Int32 × Int32) (r : Int32 × (Nat → Int64) × (Nat → Int64) × (Nat → Int64) × Int64 × Int64 × Int32) : Prop :=
  (r.1 = 0 ∨ r.1 = 1) ∧ c.2.2.2.2.2.2.2 = r.1 ∧ (∀ k, k < 8 → c.2.2.1 k = r.2.2.1 k) ∧ c.2.2.2.1 = r.2.2.2.2.1 ∧ c.2.2.2.2.1 = r.2.2.2.2.2.1 ∧ (r.1 = 1 → c.2.2.2.2.2.1 = r.2.2.2.2.2.2) ∧ 0 < (c.2.2.2.1).toInt ∧ (c.2.2.2.1).toInt ≤ 120000 ∧ ∀ k, k < 8 → ¬ lg_cmp (c.2.2.1 k) 0 < 0 ∧ (c.2.2.1 k = 0 ∨ (r.1 = 1 ∧ k < N ∧ pr (7 * k + 6) = 0))
theorem find_j {pr ta row se : Nat → Int32} {N S : Nat} (hC : Cur pr ta row N) (e2 : row 0 = nI N) (hS : S ≤ 8) (h59 : row 59 = nI S) (hq : ∀ m, m < 8 → row (60 + m) = se m) (un : Nat → Nat → Int32) (tp : Nat → Int32) (ru : Int32) (p1 p2 p3 : Int32)
    (s1 s2 : Nat → Int64) (z1 : ∀ k, k < 8 → s1 k = 0) (z2 : ∀ k, k < 8 → s2 k = 0) (goa tab tic : Nat → Int64) :
    ∃ c r, f_X1_find_j23 un tp s1 1 0 0 ru 0 pr ta se (nI N) (nI S) p1 p2 p3 = some c ∧ f_X5_finds_j76 row tab (gtri goa p1 p2 p3) s2 tic 1 0 (-1) = some r ∧ FR pr N c r := by
  have hN := hC.2.2.1
  obtain ⟨un', tp', m, r, hU, hT, hm⟩ := readThr hC e2 un tp ru
  unfold f_X1_find_j23 f_X5_finds_j76
  rw [r, Option.bind_some]
  dsimp only
  iterate 6 rw [gd_t (by rfl)]
  simp only [uR]
  generalize hW : updR (updR (updR un' (8 : Int32).toNatClampNeg (upd (un' (8 : Int32).toNatClampNeg) (0 : Int32).toNatClampNeg p1)) (8 : Int32).toNatClampNeg (upd (upd (un' (8 : Int32).toNatClampNeg) (0 : Int32).toNatClampNeg p1) (1 : Int32).toNatClampNeg p2)) (8 : Int32).toNatClampNeg (upd (upd (upd (un' (8 : Int32).toNatClampNeg) (0 : Int32).toNatClampNeg p1) (1 : Int32).toNatClampNeg p2) (2 : Int32).toNatClampNeg p3) = W
  have hRd : Rd pr ta row se N S W tp' m (gtri goa p1 p2 p3) := by
    refine ⟨hC, e2, hS, h59, hq, fun i hi k hk => ?_, hT, hm, fun k hk => ?_⟩
    · subst hW
      have e : i ≠ (8 : Int32).toNatClampNeg := by show i ≠ 8; omega
      rw [uRn e, uRn e, uRn e]; exact hU i hi k hk
    · subst hW
      rw [gtri_at _ _ _ _ _ hk]
      match k, hk with
      | 0, _ => rfl
      | 1, _ => rfl
      | 2, _ => rfl
  obtain ⟨c', r', x1, x2, x3⟩ := find1 hRd (s1, 1, 0, 0, 0) (tab, s2, tic, 1, 0, -1) ⟨fun k hk => (z1 k hk).trans (z2 k hk).symm, rfl, rfl, .inl ⟨rfl, rfl⟩, (show 0 < (1 : Int64).toInt from by decide), (show (1 : Int64).toInt ≤ 120000 from by decide), fun k hk => by show ¬ lg_cmp (s1 k) 0 < 0 ∧ (s1 k = 0 ∨ _); rw [z1 k hk]; exact ⟨by decide, .inl rfl⟩⟩
  dsimp only at x1 x2
  rw [x1, x2]
  simp only [Option.bind_some]
  obtain ⟨h1, h2, h3, h4, h5⟩ := x3
  rcases h4 with ⟨f0, b0⟩ | ⟨f1, b1, b2⟩
  · rw [if_pos (show r'.2.2.2.2.2 < 0 from by rw [b0]; decide)]
    exact ⟨_, _, rfl, rfl, .inl rfl, f0, h1, h2, h3, fun h => absurd (show (0 : Int32) = 1 from h) (by decide), h5.1, h5.2.1, fun k hk => ⟨(h5.2.2 k hk).1, (h5.2.2 k hk).2.elim .inl (fun h => absurd (f0.symm.trans h.1) (by decide))⟩⟩
  · rw [if_neg b2]
    exact ⟨_, _, rfl, rfl, .inr rfl, f1, h1, h2, h3, fun _ => b1, h5.1, h5.2.1, fun k hk => ⟨(h5.2.2 k hk).1, (h5.2.2 k hk).2.elim .inl (fun h => .inr ⟨rfl, h.2⟩)⟩⟩
theorem find_rel {pr ta row se : Nat → Int32} {N S : Nat} (hC : Cur pr ta row N) (e2 : row 0 = nI N) (hS : S ≤ 8) (h59 : row 59 = nI S) (hq : ∀ m, m < 8 → row (60 + m) = se m) (un : Nat → Nat → Int32) (tp : Nat → Int32) (sh : Nat → Int64) (de co : Int64) (ma ru fo : Int32) (p1 p2 p3 : Int32)
    (goa tab bes tic : Nat → Int64) (bwh bpr : Int64) (bse : Int32) :
    ∃ c r, f_X1_find pr ta se (nI N) (nI S) un tp sh de co ma ru fo p1 p2 p3 = some c ∧ f_X5_finds row (gtri goa p1 p2 p3) tab bes tic bwh bpr bse = some r ∧ FR pr N c r := by
  obtain ⟨s1, h1, z1⟩ := clear_ok sh de co ma fo
  obtain ⟨s2, h2, z2⟩ := z8_ok bes
  obtain ⟨c, r, x1, x2, x3⟩ := find_j hC e2 hS h59 hq un tp ru p1 p2 p3 s1 s2 z1 z2 goa tab tic
  have w : ∀ (k : Nat) (p : Int32), gtri goa p1 p2 p3 k = p.toInt64 → (lg_cmp (gtri goa p1 p2 p3 k) 0 = 0 ↔ p = 0) := by
    intro k p e
    rw [e, lg_eq0, show (0 : Int64) = (0 : Int32).toInt64 from by decide, wide_eq]
  have w0 := w 0 p1 rfl
  have w1 := w 1 p2 rfl
  have w2 := w 2 p3 rfl
  have hz : f_X5_finds row (gtri goa p1 p2 p3) tab bes tic bwh bpr bse = if p1 = 0 then (if p2 = 0 then (if p3 = 0 then some (1, tab, s2, tic, 1, 0, 0) else some r) else some r) else some r := by
    unfold f_X5_finds
    show (lp z8 1000 (bes, 0)).bind _ = _
    rw [h2, Option.bind_some, gd_t (by rfl)]
    show (if lg_cmp (gtri goa p1 p2 p3 0) 0 = 0 then gd (ib 1 3) (if lg_cmp (gtri goa p1 p2 p3 1) 0 = 0 then gd (ib 2 3) (if lg_cmp (gtri goa p1 p2 p3 2) 0 = 0 then _ else _) else _) else _) = _
    rw [gd_t (by rfl), gd_t (by rfl), x2]
    simp only [w0, w1, w2]
  rw [hz]
  unfold f_X1_find
  rw [h1, Option.bind_some]
  dsimp only
  rw [x1]
  by_cases c0 : p1 = 0
  · rw [if_pos c0, if_pos c0]
    by_cases c1 : p2 = 0
    · rw [if_pos c1, if_pos c1]
      by_cases c2 : p3 = 0
      · rw [if_pos c2, if_pos c2]
        exact ⟨_, _, rfl, rfl, .inr rfl, rfl, fun k hk => (z1 k hk).trans (z2 k hk).symm, rfl, rfl, fun _ => rfl, (show 0 < (1 : Int64).toInt from by decide), (show (1 : Int64).toInt ≤ 120000 from by decide), fun k hk => by show ¬ lg_cmp (s1 k) 0 < 0 ∧ (s1 k = 0 ∨ _); rw [z1 k hk]; exact ⟨by decide, .inl rfl⟩⟩
      · rw [if_neg c2, if_neg c2]; exact ⟨_, _, rfl, rfl, x3⟩
    · rw [if_neg c1, if_neg c1]; exact ⟨_, _, rfl, rfl, x3⟩
  · rw [if_neg c0, if_neg c0]; exact ⟨_, _, rfl, rfl, x3⟩


def TX (bt txt : Nat → Int32) (n : Nat) : Prop := n ≤ 100 ∧ ∀ k, k < 100 → txt k = bt k ∧ ∃ z, z < 256 ∧ bt k = nI z
def St (bt : Nat → Int32) (n q : Nat) : Prop := q ≤ n ∧ (q < n → bt q ≠ 32)
theorem nI_sub {a b : Nat} (h : b ≤ a) : nI a - nI b = nI (a - b) := by
  have e : nI (a - b) + nI b = nI a := by rw [nI_add]; exact congrArg nI (by omega)
  rw [← e, Int32.add_sub_cancel]
theorem skip_ok {bt txt : Nat → Int32} {n : Nat} (hT : TX bt txt n) {p : Nat} (hp : p ≤ n) :
    ∃ q, p ≤ q ∧ St bt n q ∧ f_X3_skipBlanks bt (nI n) (nI p) = some (nI q) ∧ f_X5_here txt (nI n) (nI p) = some (if q < n then bt q else -1, nI q) := by
  obtain ⟨hn, hb⟩ := hT
  have L : ∃ r1 r2, lp (f_X3_skipBlanks_b0 bt (nI n)) 1000 (nI p) = some r1 ∧ lp (f_X5_here_b0 txt (nI n)) 1000 (nI p) = some r2 ∧ ∃ q, r1 = nI q ∧ r2 = nI q ∧ p ≤ q ∧ St bt n q := by
    refine lp_rel (fun i s1 s2 => s1 = nI i ∧ s2 = nI i ∧ p ≤ i) n _ ?_ 1000 p _ _ hp (by omega) ⟨rfl, rfl, Nat.le_refl _⟩
    rintro i s1 s2 hi ⟨rfl, rfl, h⟩
    unfold f_X3_skipBlanks_b0 f_X5_here_b0
    by_cases c : i < n
    · rw [if_neg (nI_ge c (by omega)), if_neg (nI_ge c (by omega)), gd_n (by omega), gd_n (by omega), nI_clamp (by omega), (hb i (by omega)).1]
      by_cases d : bt i = 32
      · left
        refine ⟨c, _, _, if_pos d, if_pos d, nI_add i 1, nI_add i 1, by omega⟩
      · right
        exact ⟨_, _, if_neg d, if_neg d, i, rfl, rfl, h, hi, fun _ => d⟩
    · right
      have : i = n := by omega
      subst this
      rw [if_pos (Int32.le_refl _), if_pos (Int32.le_refl _)]
      exact ⟨_, _, rfl, rfl, i, rfl, rfl, h, hi, fun h => by omega⟩
  obtain ⟨r1, r2, l1, l2, q, rfl, rfl, h1, h2⟩ := L
  refine ⟨q, h1, h2, ?_, ?_⟩
  · unfold f_X3_skipBlanks; rw [l1]; rfl
  · unfold f_X5_here
    rw [l2, Option.bind_some]
    have := h2.1
    by_cases c : q < n
    · rw [if_neg (nI_ge c (by omega)), gd_n (by omega), nI_clamp (by omega), (hb q (by omega)).1, if_pos c]
    · have : q = n := by omega
      subst this
      rw [if_pos (Int32.le_refl _), if_neg c]
theorem skip_st {bt txt : Nat → Int32} {n : Nat} (hT : TX bt txt n) {q : Nat} (h : St bt n q) : f_X3_skipBlanks bt (nI n) (nI q) = some (nI q) ∧ f_X5_here txt (nI n) (nI q) = some (if q < n then bt q else -1, nI q) := by
  have hn := hT.1
  have hq := h.1
  obtain ⟨q', h1, h2, h3, h4⟩ := skip_ok hT h.1
  have e : f_X3_skipBlanks bt (nI n) (nI q) = some (nI q) := by
    unfold f_X3_skipBlanks
    show ((f_X3_skipBlanks_b0 bt (nI n) (nI q)).bind _).bind _ = _
    unfold f_X3_skipBlanks_b0
    by_cases c : q < n
    · rw [if_neg (nI_ge c (by omega)), gd_n (by omega), nI_clamp (by omega), if_neg (h.2 c)]; rfl
    · have : q = n := by omega
      subst this
      rw [if_pos (Int32.le_refl _)]; rfl
  have : q' = q := nI_inj (by have := h2.1; omega) (by omega) (Option.some.inj (h3.symm.trans e))
  subst this
  exact ⟨e, h4⟩
theorem acc_ok {bt txt : Nat → Int32} {n : Nat} (hT : TX bt txt n) {p : Nat} (hp : p ≤ n) (z : Nat) (hz : z < 256) :
    ∃ u e, (u = 0 ∨ u = 1) ∧ p ≤ e ∧ e ≤ n ∧ f_X3_accept bt (nI n) (nI p) (nI z) = some (u, nI e) ∧ f_X5_sign txt (nI n) (nI p) (nI z) = some (u, nI e) ∧ (u = 0 → St bt n e) := by
  obtain ⟨hn, hb⟩ := id hT
  obtain ⟨q, h1, h2, h3, h4⟩ := skip_ok hT hp
  unfold f_X3_accept f_X5_sign
  have hqn := h2.1
  rw [h3, h4, Option.bind_some, Option.bind_some]
  dsimp only
  by_cases c : q < n
  · rw [if_neg (nI_ge c (by omega)), gd_n (by omega), nI_clamp (by omega), if_pos c]
    by_cases d : bt q = nI z
    · rw [if_pos d, if_pos d]
      refine ⟨1, q + 1, .inr rfl, by omega, by omega, ?_, ?_, fun h => absurd h (by decide)⟩
      · rw [show nI q + 1 = nI (q + 1) from nI_add q 1]
      · show some ((1 : Int32), nI q + 1) = _
        rw [show nI q + 1 = nI (q + 1) from nI_add q 1]
    · rw [if_neg d, if_neg d]
      refine ⟨0, q, .inl rfl, h1, h2.1, rfl, ?_, fun _ => h2⟩
      show some ((0 : Int32), nI q + 0) = _
      rw [Int32.add_zero]
  · have : q = n := by omega
    subst this
    have d : ¬ (-1 : Int32) = nI z := by
      intro e
      have := congrArg Int32.toInt e
      rw [nI_toInt (by omega)] at this
      have m : (-1 : Int32).toInt = -1 := by decide
      omega
    rw [if_pos (Int32.le_refl _), if_neg c, if_neg d]
    refine ⟨0, q, .inl rfl, h1, h2.1, rfl, ?_, fun _ => h2⟩
    show some ((0 : Int32), nI q + 0) = _
    rw [Int32.add_zero]
theorem digs_ok {bt txt : Nat → Int32} {n : Nat} (hT : TX bt txt n) {s : Nat} (hs : s ≤ n) :
    ∃ r1 r2, lp (f_X3_readNumber_b7 bt (nI n)) 1000 (nI s, 0) = some r1 ∧ lp (f_X5_readsPart_b21 txt (nI n) (nI s) (if s < n then bt s else -1)) 1000 (nI s, 0) = some r2 ∧ ∃ e, s ≤ e ∧ e ≤ n ∧ r1.1 = nI e ∧ r2.1 = nI e ∧ (e ≤ s + 5 → r1.2 = r2.2) := by
  obtain ⟨hn, hb⟩ := hT
  refine lp_rel (fun i (s1 s2 : Int32 × Int32) => s1.1 = nI i ∧ s2.1 = nI i ∧ s ≤ i ∧ (i ≤ s + 5 → s1.2 = s2.2)) n (fun (r1 r2 : Int32 × Int32) => ∃ e, s ≤ e ∧ e ≤ n ∧ r1.1 = nI e ∧ r2.1 = nI e ∧ (e ≤ s + 5 → r1.2 = r2.2)) ?_ 1000 s _ _ hs (by omega) ⟨rfl, rfl, Nat.le_refl _, fun _ => rfl⟩
  rintro i ⟨a1, v1⟩ ⟨a2, v2⟩ hi ⟨g1, g2, h, hv⟩
  replace g1 : a1 = nI i := g1
  replace g2 : a2 = nI i := g2
  replace hv : i ≤ s + 5 → v1 = v2 := hv
  subst g1 g2
  unfold f_X3_readNumber_b7 f_X5_readsPart_b21
  dsimp only
  by_cases c : i < n
  · obtain ⟨z, hz, ez⟩ := (hb s (by omega)).2
    have sn : s < n := by omega
    rw [if_pos sn, ez, if_neg (show ¬ nI z < 0 from by rw [Int32.lt_iff_toInt_lt, nI_toInt (by omega), show (0 : Int32).toInt = 0 from by decide]; omega), if_neg (nI_ge c (by omega)), if_neg (nI_ge c (by omega)), gd_n (by omega), gd_n (by omega), gd_n (by omega), gd_n (by omega), nI_clamp (by omega), (hb i (by omega)).1, in_eq]
    have D : f_X3_isDigit (bt i) = f_X4_isWithin (bt i) 48 57 := rfl
    rw [D]
    rcases wi (bt i) 48 57 with ⟨w, -⟩ | ⟨w, -⟩
    · right
      rw [w]
      exact ⟨_, _, rfl, rfl, i, h, by omega, rfl, rfl, hv⟩
    · left
      rw [w]
      simp only [Option.bind_some, n10, ↓reduceIte]
      refine ⟨c, ?_⟩
      by_cases d : 5 ≤ i - s
      · have : (5 : Int32) ≤ nI i - nI s := by rw [nI_sub h]; exact nI_le (a := 5) (by omega) (by omega)
        rw [if_pos this]
        exact ⟨_, _, rfl, rfl, nI_add i 1, nI_add i 1, by omega, fun h => by omega⟩
      · have : ¬ (5 : Int32) ≤ nI i - nI s := by rw [nI_sub h]; exact nI_ge (b := 5) (by omega) (by omega)
        rw [if_neg this]
        refine ⟨_, _, rfl, rfl, nI_add i 1, nI_add i 1, by omega, fun _ => ?_⟩
        show v1 * 10 + bt i - 48 = 10 * v2 + bt i - 48
        rw [hv (by omega), Int32.mul_comm]
  · right
    have : i = n := by omega
    subst this
    rw [if_pos (Int32.le_refl _)]
    by_cases d : (if s < i then bt s else (-1 : Int32)) < 0
    · rw [if_pos d]
      exact ⟨_, _, rfl, rfl, i, h, by omega, rfl, rfl, hv⟩
    · rw [if_neg d, if_pos (Int32.le_refl _)]
      exact ⟨_, _, rfl, rfl, i, h, by omega, rfl, rfl, hv⟩
theorem num_ok {bt txt : Nat → Int32} {n : Nat} (hT : TX bt txt n) {s : Nat} (hs : s ≤ n) :
    ∃ e v1 v2, s ≤ e ∧ e ≤ n ∧ lp (f_X5_readsPart_b21 txt (nI n) (nI s) (if s < n then bt s else -1)) 1000 (nI s, 0) = some (nI e, v2) ∧
      ((s < e ∧ e ≤ s + 4 ∧ v1 = v2 ∧ v1 ≤ 2000 ∧ f_X3_readNumber bt (nI n) (nI s) (-2000000000) = some (v1, nI e, -2000000000)) ∨ (¬ (s < e ∧ e ≤ s + 4 ∧ v2 ≤ 2000) ∧ f_X3_readNumber bt (nI n) (nI s) (-2000000000) = some (v1, nI e, nI s))) := by
  have hn := hT.1
  obtain ⟨⟨a1, v1⟩, ⟨a2, v2⟩, l1, l2, e, h1, h2, g1, g2, hv⟩ := digs_ok hT hs
  replace g1 : a1 = nI e := g1
  replace g2 : a2 = nI e := g2
  replace hv : e ≤ s + 5 → v1 = v2 := hv
  subst g1 g2
  refine ⟨e, v1, v2, h1, h2, l2, ?_⟩
  unfold f_X3_readNumber f_X3_readNumber_j87
  rw [l1, Option.bind_some]
  dsimp only
  rw [nI_sub h1]
  by_cases c : e = s
  · right
    subst c
    refine ⟨fun h => by omega, ?_⟩
    rw [Nat.sub_self, if_pos (show nI 0 = 0 from rfl)]
  · have n0 : ¬ nI (e - s) = 0 := fun h => by
      have := nI_inj (a := e - s) (b := 0) (by omega) (by omega) h
      omega
    rw [if_neg n0]
    by_cases d : 4 < e - s
    · right
      refine ⟨fun h => by omega, ?_⟩
      have : (4 : Int32) < nI (e - s) := by
        rw [Int32.lt_iff_toInt_lt, nI_toInt (by omega), show (4 : Int32).toInt = 4 from by decide]; omega
      rw [if_pos this]
    · have : ¬ (4 : Int32) < nI (e - s) := by
        rw [Int32.lt_iff_toInt_lt, nI_toInt (by omega), show (4 : Int32).toInt = 4 from by decide]; omega
      rw [if_neg this]
      by_cases f : v1 ≤ 2000
      · left
        exact ⟨by omega, by omega, hv (by omega), f, if_pos f⟩
      · right
        refine ⟨fun h => f (by rw [hv (by omega)]; exact h.2.2), if_neg f⟩
theorem part_ok {bt txt : Nat → Int32} {n : Nat} (hT : TX bt txt n) {p : Nat} (hp : p ≤ n) (par : Nat → Int32) (w : Nat) (hw : w < 3) :
    ∃ v e f, f_X3_readSigned bt (nI n) (nI p) (-2000000000) = some (v, nI e, f) ∧ e ≤ n ∧ ((f = -2000000000 ∧ p < e ∧ e ≤ n ∧ f_X5_readsPart txt (nI n) par (nI p) (nI w) = some (1, upd par w v, nI e)) ∨ (∃ s, f = nI s ∧ p ≤ s ∧ St bt n s ∧ f_X5_readsPart txt (nI n) par (nI p) (nI w) = some (0, par, nI s))) := by
  have hn := hT.1
  obtain ⟨u, q, hu, h1, h2, a1, a2, -⟩ := acc_ok hT hp 45 (by decide)
  obtain ⟨s, h3, h4, k1, k2⟩ := skip_ok hT h2
  obtain ⟨e, v1, v2, h5, h6, l, hc⟩ := num_ok hT h4.1
  have hsn := h4.1
  have R : f_X5_readsPart txt (nI n) par (nI p) (nI w) = if nI e = nI s then some (0, par, nI s) else if 4 < nI (e - s) then some (0, par, nI s) else if v2 ≤ 2000 then (if u = 0 then f_X5_readsPart_j144 par (nI e) v2 (nI w) else f_X5_readsPart_j144 par (nI e) (-v2) (nI w)) else some (0, par, nI s) := by
    unfold f_X5_readsPart
    rw [show f_X5_sign txt (nI n) (nI p) 45 = some (u, nI q) from a2, Option.bind_some, k2, Option.bind_some]
    dsimp only
    rw [l, Option.bind_some]
    dsimp only
    rw [nI_sub h5]
  have C : ∀ x f, f_X3_readNumber bt (nI n) (nI s) (-2000000000) = some (x, nI e, f) → f_X3_readSigned bt (nI n) (nI p) (-2000000000) = some ((if u = 0 then x else -x), nI e, f) := by
    intro x f hx
    unfold f_X3_readSigned
    rw [show f_X3_accept bt (nI n) (nI p) 45 = some (u, nI q) from a1, Option.bind_some, k1, Option.bind_some, hx, Option.bind_some]
    dsimp only
    split <;> rfl
  rcases hc with ⟨c1, c2, rfl, c3, c4⟩ | ⟨c1, c4⟩
  · refine ⟨_, e, _, C _ _ c4, h6, .inl ⟨rfl, by omega, h6, ?_⟩⟩
    have n1 : ¬ nI e = nI s := fun h => by have := nI_inj (by omega) (by omega) h; omega
    have n2 : ¬ (4 : Int32) < nI (e - s) := by
      rw [Int32.lt_iff_toInt_lt, nI_toInt (by omega), show (4 : Int32).toInt = 4 from by decide]; omega
    rw [R, if_neg n1, if_neg n2, if_pos c3]
    unfold f_X5_readsPart_j144
    rw [gd_n hw, gd_n hw, nI_clamp (by omega)]
    split <;> rfl
  · refine ⟨_, e, _, C _ _ c4, h6, .inr ⟨s, rfl, by omega, h4, ?_⟩⟩
    rw [R]
    by_cases d1 : nI e = nI s
    · rw [if_pos d1]
    · rw [if_neg d1]
      by_cases d2 : (4 : Int32) < nI (e - s)
      · rw [if_pos d2]
      · rw [if_neg d2, if_neg]
        intro d3
        refine c1 ⟨?_, ?_, d3⟩
        · have : e ≠ s := fun h => d1 (by rw [h])
          omega
        · rw [Int32.lt_iff_toInt_lt, nI_toInt (by omega), show (4 : Int32).toInt = 4 from by decide] at d2; omega
/-- the three parts of a request -/
theorem parts_ok {bt txt : Nat → Int32} {n : Nat} (hT : TX bt txt n) {rn : Nat} (hr : rn < 10) :
    ∀ d w p, w + d = 3 → p ≤ n → ∀ (pa par : Nat → Int32) m1 m2, (∀ k, k < w → pa (3 * rn + k) = par k) →
      (∃ pa' par' e, lp (f_X3_readRequest_b30 bt (nI n) (nI rn)) (m1 + d + 2) (pa, nI p, -2000000000, nI w) = some (Sum.inr (pa', nI e, -2000000000)) ∧ lp (f_X5_readsRequest_b31 txt (nI n)) (m2 + d + 1) (par, nI p, nI w) = some (Sum.inr (par', nI e)) ∧ p ≤ e ∧ (0 < d → p < e) ∧ e ≤ n ∧ (∀ k, k < 3 → pa' (3 * rn + k) = par' k) ∧ ∀ k, k < 3 * rn → pa' k = pa k) ∨
      (∃ o par' s, lp (f_X3_readRequest_b30 bt (nI n) (nI rn)) (m1 + d + 2) (pa, nI p, -2000000000, nI w) = some o ∧ ((∃ pa', o = Sum.inl (pa', nI s, -2000000000)) ∨ (∃ pa' x, x ≤ n ∧ o = Sum.inr (pa', nI x, nI s))) ∧ lp (f_X5_readsRequest_b31 txt (nI n)) (m2 + d + 1) (par, nI p, nI w) = some (Sum.inl (par', nI s)) ∧ p ≤ s ∧ St bt n s) := by
  have hn := hT.1
  intro d
  induction d with
  | zero =>
    intro w p hw hp pa par m1 m2 hk
    have : w = 3 := by omega
    subst this
    left
    exact ⟨pa, par, p, rfl, rfl, Nat.le_refl _, fun h => by omega, hp, hk, fun _ _ => rfl⟩
  | succ d ih =>
    intro w p hw hp pa par m1 m2 hk
    have hw3 : w < 3 := by omega
    have n3 : ¬ (3 : Int32) ≤ nI w := nI_ge (b := 3) hw3 (by omega)
    have s1 : ∀ z, lp (f_X3_readRequest_b30 bt (nI n) (nI rn)) (m1 + (d + 1) + 2) z = (f_X3_readRequest_b30 bt (nI n) (nI rn) z).bind (Sum.elim (lp (f_X3_readRequest_b30 bt (nI n) (nI rn)) (m1 + d + 2)) some) := fun z => rfl
    have s2 : ∀ z, lp (f_X5_readsRequest_b31 txt (nI n)) (m2 + (d + 1) + 1) z = (f_X5_readsRequest_b31 txt (nI n) z).bind (Sum.elim (lp (f_X5_readsRequest_b31 txt (nI n)) (m2 + d + 1)) some) := fun z => rfl
    rw [s1, s2]
    -- from where the part begins
    have go : ∀ q, p ≤ q → q ≤ n → f_X3_readRequest_b30 bt (nI n) (nI rn) (pa, nI p, -2000000000, nI w) = f_X3_readRequest_j66 bt pa (nI n) (nI rn) (nI q) (-2000000000) (nI w) → f_X5_readsRequest_b31 txt (nI n) (par, nI p, nI w) = f_X5_readsRequest_j51 txt par (nI n) (nI q) (nI w) →
      (∃ pa' par' e, (f_X3_readRequest_b30 bt (nI n) (nI rn) (pa, nI p, -2000000000, nI w)).bind (Sum.elim (lp (f_X3_readRequest_b30 bt (nI n) (nI rn)) (m1 + d + 2)) some) = some (Sum.inr (pa', nI e, -2000000000)) ∧ (f_X5_readsRequest_b31 txt (nI n) (par, nI p, nI w)).bind (Sum.elim (lp (f_X5_readsRequest_b31 txt (nI n)) (m2 + d + 1)) some) = some (Sum.inr (par', nI e)) ∧ p ≤ e ∧ (0 < d + 1 → p < e) ∧ e ≤ n ∧ (∀ k, k < 3 → pa' (3 * rn + k) = par' k) ∧ ∀ k, k < 3 * rn → pa' k = pa k) ∨
      (∃ o par' s, (f_X3_readRequest_b30 bt (nI n) (nI rn) (pa, nI p, -2000000000, nI w)).bind (Sum.elim (lp (f_X3_readRequest_b30 bt (nI n) (nI rn)) (m1 + d + 2)) some) = some o ∧ ((∃ pa', o = Sum.inl (pa', nI s, -2000000000)) ∨ (∃ pa' x, x ≤ n ∧ o = Sum.inr (pa', nI x, nI s))) ∧ (f_X5_readsRequest_b31 txt (nI n) (par, nI p, nI w)).bind (Sum.elim (lp (f_X5_readsRequest_b31 txt (nI n)) (m2 + d + 1)) some) = some (Sum.inl (par', nI s)) ∧ p ≤ s ∧ St bt n s) := by
      intro q hq1 hq2 b1 b2
      rw [b1, b2]
      obtain ⟨v, e, f, c1, en, c2⟩ := part_ok hT hq2 par w hw3
      have i3 : nI rn * 3 + nI w = nI (3 * rn + w) := ix3 rn w
      have J : f_X3_readRequest_j66 bt pa (nI n) (nI rn) (nI q) (-2000000000) (nI w) = some (Sum.inl (upd pa (3 * rn + w) v, nI e, f, nI (w + 1))) := by
        unfold f_X3_readRequest_j66
        rw [c1, Option.bind_some, i3, gd_n (by omega), nI_clamp (by omega), show nI w + 1 = nI (w + 1) from nI_add w 1]
      rw [J]
      unfold f_X5_readsRequest_j51
      rcases c2 with ⟨rfl, e1, e2, e3⟩ | ⟨s, rfl, e1, e2, e3⟩
      · rw [e3]
        simp only [Option.bind_some, n10, ↓reduceIte, Sum.elim_inl]
        rw [show nI w + 1 = nI (w + 1) from nI_add w 1]
        have hk' : ∀ k, k < w + 1 → upd pa (3 * rn + w) v (3 * rn + k) = upd par w v k := by
          intro k hk1
          by_cases c : k = w
          · subst c; rw [us, us]
          · rw [uu (by omega), uu c]; exact hk k (by omega)
        rcases ih (w + 1) e (by omega) e2 (upd pa (3 * rn + w) v) (upd par w v) m1 m2 hk' with ⟨pa', par', e', x1, x2, x3, -, x4, x5, x6⟩ | ⟨o, par', s, x1, x2, x3, x4, x5⟩
        · exact .inl ⟨pa', par', e', x1, x2, by omega, fun _ => by omega, x4, x5, fun k hk => (x6 k hk).trans (uu (by omega))⟩
        · exact .inr ⟨o, par', s, x1, x2, x3, by omega, x5⟩
      · rw [e3]
        right
        refine ⟨Sum.inr (upd pa (3 * rn + w) v, nI e, nI s), par, s, ?_, .inr ⟨_, _, en, rfl⟩, rfl, by omega, e2⟩
        show (f_X3_readRequest_b30 bt (nI n) (nI rn) (upd pa (3 * rn + w) v, nI e, nI s, nI (w + 1))).bind _ = _
        unfold f_X3_readRequest_b30
        dsimp only
        have ne : ¬ nI s = -2000000000 := by
          intro h
          have := congrArg Int32.toInt h
          rw [nI_toInt (by have := e2.1; omega), show (-2000000000 : Int32).toInt = -2000000000 from by decide] at this
          omega
        rw [if_neg ne]
        split <;> rfl
    by_cases w0 : w = 0
    · subst w0
      refine go p (Nat.le_refl _) hp ?_ ?_
      · unfold f_X3_readRequest_b30
        dsimp only
        rw [if_neg n3, if_pos rfl, if_pos (by decide)]
      · unfold f_X5_readsRequest_b31
        dsimp only
        rw [if_neg n3, if_pos (by decide)]
    · have nw : ¬ nI w ≤ 0 := nI_ge (a := 0) (b := w) (by omega) (by omega)
      obtain ⟨u, q, hu, h1, h2, a1, a2, h3⟩ := acc_ok hT hp 44 (by decide)
      have b1 : f_X3_readRequest_b30 bt (nI n) (nI rn) (pa, nI p, -2000000000, nI w) = if u = 0 then some (Sum.inr (Sum.inl (pa, nI q, -2000000000))) else f_X3_readRequest_j66 bt pa (nI n) (nI rn) (nI q) (-2000000000) (nI w) := by
        unfold f_X3_readRequest_b30
        dsimp only
        rw [if_neg n3, if_pos rfl, if_neg nw, show f_X3_accept bt (nI n) (nI p) 44 = some (u, nI q) from a1, Option.bind_some]
      have b2 : f_X5_readsRequest_b31 txt (nI n) (par, nI p, nI w) = if u = 0 then some (Sum.inr (Sum.inl (par, nI q))) else f_X5_readsRequest_j51 txt par (nI n) (nI q) (nI w) := by
        unfold f_X5_readsRequest_b31
        dsimp only
        rw [if_neg n3, if_neg nw, show f_X5_sign txt (nI n) (nI p) 44 = some (u, nI q) from a2, Option.bind_some]
      rcases hu with rfl | rfl
      · rw [b1, b2, if_pos rfl, if_pos rfl]
        right
        exact ⟨_, par, q, rfl, .inl ⟨pa, rfl⟩, rfl, h1, h3 rfl⟩
      · rw [if_neg (by decide)] at b1 b2
        exact go q h1 h2 b1 b2


/-! recording -/
theorem cpy0 {α : Type} {f g : Nat → α} {n k : Nat} (h : k < n) : va_cpy f g 0 0 n k = f k := by
  have := pk_cpy_in (f := f) (g := g) (sp := 0) (dp := 0) (n := n) (j := k) (Nat.zero_le _) (by omega)
  rw [this]
  exact congrArg f (by omega)
theorem PV.congr {p p' : Nat → Int32} {i : Nat} (h : ∀ k, k < 56 → p' k = p k) (hi : i < 8) (hp : PV p i) : PV p' i := by
  unfold PV at hp ⊢
  rw [h (7 * i) (by omega), h (7 * i + 1) (by omega), h (7 * i + 2) (by omega), h (7 * i + 3) (by omega), h (7 * i + 4) (by omega), h (7 * i + 5) (by omega), h (7 * i + 6) (by omega)]
  exact hp
theorem Val.congr {pr se pr' se' : Nat → Int32} {tc sc rc so : Int32} (hp : ∀ k, k < 56 → pr' k = pr k) (hs : ∀ k, k < 8 → se' k = se k) (h : Val pr se tc sc rc so) : Val pr' se' tc sc rc so := by
  obtain ⟨N, S, Q, h1, h2, h3, h4, h5, h6, h7, h8⟩ := h
  refine ⟨N, S, Q, h1, h2, h3, h4, h5, h6, fun i hi => (h7 i hi).congr hp (by omega), fun i j hi hj e => h8.1 i j hi hj ?_, h8.2⟩
  rw [hs i (by omega), hs j (by omega)] at e
  exact e
theorem copy_ok (opr opu ota ose oqu oim : Nat → Int32) (osu : Nat → Int64) (otc osc orc ocn oso : Int32) (pr pu ta se qu im : Nat → Int32) (su : Nat → Int64) (tc sc rc cn so : Int32) :
    ∃ u : SV, f_X2_copyFrom opr opu ota ose oqu oim osu otc osc orc ocn oso pr pu ta se qu im su tc sc rc cn so = some u ∧ (∀ row tot b, BR opr opu ota ose oqu oim osu otc osc orc ocn oso row tot b → BRv u row tot b) ∧ (Val opr ose otc osc orc oso → Valv u) := by
  refine ⟨(va_cpy opr pr 0 0 56, va_cpy opu pu 0 0 8, va_cpy ota ta 0 0 2, va_cpy ose se 0 0 8, va_cpy oqu qu 0 0 30, va_cpy oim im 0 0 9, va_cpy osu su 0 0 3, otc, osc, orc, ocn, oso), rfl, fun row tot b h => ?_, fun h => ?_⟩
  · obtain ⟨h1, h2, h3, h4, h5, h6, h7, h8⟩ := h
    exact ⟨fun k hk => (h1 k hk).trans (cpy0 hk).symm, fun k hk => (h2 k hk).trans (cpy0 hk).symm, fun k hk => (h3 k hk).trans (cpy0 hk).symm, fun k hk => (h4 k hk).trans (cpy0 hk).symm, fun k hk => (h5 k hk).trans (cpy0 hk).symm, fun k hk => (h6 k hk).trans (cpy0 hk).symm, fun k hk => (h7 k hk).trans (cpy0 hk).symm, h8⟩
  · exact h.congr (fun k hk => cpy0 hk) (fun k hk => cpy0 hk)
theorem rem5 (o c : Nat) (h : o + c < 2 ^ 31) : (nI o + nI c) - (nI o + nI c) / 5 * 5 = nI ((o + c) % 5) := by
  rw [nI_add, show (5 : Int32) = nI 5 from rfl, pk_rem h (by omega) (by omega)]
theorem copies_ok (row : Nat → Int32) (tot : Nat → Int64) (a b : Nat) (ha : a ≤ 5) (hb : b ≤ 5) (hab : a ≠ b) :
    ∃ q, f_X5_copies row tot (nI a) (nI b) = some q ∧ (∀ k, q.1 k = if 118 * b ≤ k ∧ k < 118 * b + 118 then row (118 * a + (k - 118 * b)) else row k) ∧ (∀ k, q.2 k = if 3 * b ≤ k ∧ k < 3 * b + 3 then tot (3 * a + (k - 3 * b)) else tot k) := by
  have l1 := lp_run (b := f_X5_copies_b2 (nI a) (nI b)) (fun i s => s.2 = nI i ∧ ∀ k, s.1 k = if 118 * b ≤ k ∧ k < 118 * b + i then row (118 * a + (k - 118 * b)) else row k) 118 (fun r => ∀ k, r k = if 118 * b ≤ k ∧ k < 118 * b + 118 then row (118 * a + (k - 118 * b)) else row k) (by
    rintro i ⟨f, z⟩ hi ⟨rfl, hJ⟩
    replace hJ : ∀ k, f k = if 118 * b ≤ k ∧ k < 118 * b + i then row (118 * a + (k - 118 * b)) else row k := hJ
    unfold f_X5_copies_b2
    rcases Nat.lt_or_ge i 118 with hlt | hge
    · refine Or.inl ⟨hlt, ?_⟩
      have ea : (118 : Int32) * nI a + nI i = nI (118 * a + i) := by rw [show (118 : Int32) = nI 118 from rfl, pk_mul, nI_add]
      have eb : (118 : Int32) * nI b + nI i = nI (118 * b + i) := by rw [show (118 : Int32) = nI 118 from rfl, pk_mul, nI_add]
      have hn : ¬ (118 : Int32) ≤ nI i := fun h => by
        have := (nI_leI (a := 118) (b := i) (by omega) (by omega)).mp h
        omega
      refine ⟨(upd f (118 * b + i) (f (118 * a + i)), nI (i + 1)), ?_, rfl, fun k => ?_⟩
      · show (if (118 : Int32) ≤ nI i then _ else _) = _
        rw [if_neg hn, gd_e ea (by omega), gd_e eb (by omega)]
        simp only [cl_e ea, cl_e eb, nI_1]
      · simp only [upd]
        by_cases c : k = 118 * b + i
        · subst c
          rw [if_pos rfl, if_pos (by omega), hJ, if_neg (by omega)]
          exact congrArg row (by omega)
        · rw [if_neg c, hJ]
          by_cases d : 118 * b ≤ k ∧ k < 118 * b + i
          · rw [if_pos d, if_pos (by omega)]
          · rw [if_neg d, if_neg (by omega)]
    · have : i = 118 := by omega
      subst this
      exact Or.inr ⟨f, by show (if (118 : Int32) ≤ nI 118 then _ else _) = _; rw [if_pos (by decide)], hJ⟩) 1000 0 (row, 0) (by omega) (by omega) ⟨rfl, fun k => by rw [if_neg (by omega)]⟩
  have l2 := lp_run (b := f_X5_copies_b38 (nI a) (nI b)) (fun i s => s.2 = nI i ∧ ∀ k, s.1 k = if 3 * b ≤ k ∧ k < 3 * b + i then tot (3 * a + (k - 3 * b)) else tot k) 3 (fun r => ∀ k, r k = if 3 * b ≤ k ∧ k < 3 * b + 3 then tot (3 * a + (k - 3 * b)) else tot k) (by
    rintro i ⟨f, z⟩ hi ⟨rfl, hJ⟩
    replace hJ : ∀ k, f k = if 3 * b ≤ k ∧ k < 3 * b + i then tot (3 * a + (k - 3 * b)) else tot k := hJ
    unfold f_X5_copies_b38
    rcases Nat.lt_or_ge i 3 with hlt | hge
    · refine Or.inl ⟨hlt, ?_⟩
      have ea : (3 : Int32) * nI a + nI i = nI (3 * a + i) := by rw [show (3 : Int32) = nI 3 from rfl, pk_mul, nI_add]
      have eb : (3 : Int32) * nI b + nI i = nI (3 * b + i) := by rw [show (3 : Int32) = nI 3 from rfl, pk_mul, nI_add]
      have hn : ¬ (3 : Int32) ≤ nI i := fun h => by
        have := (nI_leI (a := 3) (b := i) (by omega) (by omega)).mp h
        omega
      refine ⟨(vp_updL f (3 * b + i) (f (3 * a + i)), nI (i + 1)), ?_, rfl, fun k => ?_⟩
      · show (if (3 : Int32) ≤ nI i then _ else _) = _
        rw [if_neg hn, gd_e ea (by omega), gd_e eb (by omega)]
        simp only [cl_e ea, cl_e eb, nI_1]
      · simp only [vp_updL]
        by_cases c : k = 3 * b + i
        · subst c
          rw [if_pos rfl, if_pos (by omega), hJ, if_neg (by omega)]
          exact congrArg tot (by omega)
        · rw [if_neg c, hJ]
          by_cases d : 3 * b ≤ k ∧ k < 3 * b + i
          · rw [if_pos d, if_pos (by omega)]
          · rw [if_neg d, if_neg (by omega)]
    · have : i = 3 := by omega
      subst this
      exact Or.inr ⟨f, by show (if (3 : Int32) ≤ nI 3 then _ else _) = _; rw [if_pos (by decide)], hJ⟩) 1000 0 (tot, 0) (by omega) (by omega) ⟨rfl, fun k => by rw [if_neg (by omega)]⟩
  obtain ⟨r1, e1, h1⟩ := l1
  obtain ⟨r2, e2, h2⟩ := l2
  exact ⟨(r1, r2), by unfold f_X5_copies; rw [e1, Option.bind_some, e2]; rfl, h1, h2⟩
theorem saves_ok (row : Nat → Int32) (tot : Nat → Int64) (c : Nat) (hc : c ≤ 5) :
    ∃ q, f_X5_saves row tot (nI c) = some q ∧ (∀ k, k < 118 → q.1 k = row k) ∧ (∀ k, k < 3 → q.2.1 k = tot k) ∧ q.2.2 = nI (if c = 5 then 5 else c + 1) ∧
      (∀ j k, j < (if c = 5 then 4 else c) → k < 118 → q.1 (118 * (j + 1) + k) = row (118 * (j + 1 + if c = 5 then 1 else 0) + k)) ∧ (∀ j k, j < (if c = 5 then 4 else c) → k < 3 → q.2.1 (3 * (j + 1) + k) = tot (3 * (j + 1 + if c = 5 then 1 else 0) + k)) ∧
      (∀ k, k < 118 → q.1 (118 * ((if c = 5 then 4 else c) + 1) + k) = row k) ∧ (∀ k, k < 3 → q.2.1 (3 * ((if c = 5 then 4 else c) + 1) + k) = tot k) := by
  by_cases h5 : c = 5
  · subst h5
    simp only [↓reduceIte]
    have l1 := lp_run (b := f_X5_saves_b2 (nI 5)) (fun i s => s.2.2 = nI (i + 1) ∧ (∀ k, k < 118 → s.1 k = row k) ∧ (∀ k, k < 3 → s.2.1 k = tot k) ∧ (∀ j k, j < 5 → k < 118 → s.1 (118 * (j + 1) + k) = if j < i then row (118 * (j + 2) + k) else row (118 * (j + 1) + k)) ∧ (∀ j k, j < 5 → k < 3 → s.2.1 (3 * (j + 1) + k) = if j < i then tot (3 * (j + 2) + k) else tot (3 * (j + 1) + k))) 4
      (fun r => (∀ k, k < 118 → r.1 k = row k) ∧ (∀ k, k < 3 → r.2 k = tot k) ∧ (∀ j k, j < 4 → k < 118 → r.1 (118 * (j + 1) + k) = row (118 * (j + 2) + k)) ∧ (∀ j k, j < 4 → k < 3 → r.2 (3 * (j + 1) + k) = tot (3 * (j + 2) + k))) (by
      rintro i ⟨f, g, z⟩ hi ⟨hz, h0, h1, h2, h3⟩
      subst hz
      replace h0 : ∀ k, k < 118 → f k = row k := h0
      replace h1 : ∀ k, k < 3 → g k = tot k := h1
      replace h2 : ∀ j k, j < 5 → k < 118 → f (118 * (j + 1) + k) = if j < i then row (118 * (j + 2) + k) else row (118 * (j + 1) + k) := h2
      replace h3 : ∀ j k, j < 5 → k < 3 → g (3 * (j + 1) + k) = if j < i then tot (3 * (j + 2) + k) else tot (3 * (j + 1) + k) := h3
      unfold f_X5_saves_b2
      rcases Nat.lt_or_ge i 4 with hlt | hge
      · refine Or.inl ⟨hlt, ?_⟩
        have hn : ¬ (5 : Int32) ≤ nI (i + 1) := fun h => by
          have := (nI_leI (a := 5) (b := i + 1) (by omega) (by omega)).mp h
          omega
        obtain ⟨q, hq, hq1, hq2⟩ := copies_ok f g (i + 2) (i + 1) (by omega) (by omega) (by omega)
        refine ⟨(q.1, q.2, nI (i + 2)), ?_, rfl, fun k hk => ?_, fun k hk => ?_, fun j k hj hk => ?_, fun j k hj hk => ?_⟩
        · show (if (5 : Int32) ≤ nI (i + 1) then _ else _) = _
          rw [if_neg hn, if_pos (by decide)]
          show ((f_X5_copies f g (nI (i + 1) + 1) (nI (i + 1))).bind _) = _
          rw [nI_1, hq]
          rfl
        · show q.1 k = _
          rw [hq1, if_neg (by omega)]; exact h0 k hk
        · show q.2 k = _
          rw [hq2, if_neg (by omega)]; exact h1 k hk
        · show q.1 _ = _
          rw [hq1]
          have a0 := h2 j k hj hk
          by_cases c : j = i
          · subst c
            rw [if_pos (by omega), if_pos (by omega)]
            have := h2 (j + 1) k (by omega) hk
            rw [if_neg (by omega)] at this
            rw [← this]; exact congrArg f (by omega)
          · rw [if_neg (by omega)]
            rw [a0]
            by_cases d : j < i
            · rw [if_pos d, if_pos (by omega)]
            · rw [if_neg d, if_neg (by omega)]
        · show q.2 _ = _
          rw [hq2]
          have a0 := h3 j k hj hk
          by_cases c : j = i
          · subst c
            rw [if_pos (by omega), if_pos (by omega)]
            have := h3 (j + 1) k (by omega) hk
            rw [if_neg (by omega)] at this
            rw [← this]; exact congrArg g (by omega)
          · rw [if_neg (by omega)]
            rw [a0]
            by_cases d : j < i
            · rw [if_pos d, if_pos (by omega)]
            · rw [if_neg d, if_neg (by omega)]
      · have : i = 4 := by omega
        subst this
        refine Or.inr ⟨(f, g), by show (if (5 : Int32) ≤ nI 5 then _ else _) = _; rw [if_pos (by decide)], h0, h1, fun j k hj hk => ?_, fun j k hj hk => ?_⟩
        · have := h2 j k (by omega) hk; rwa [if_pos hj] at this
        · have := h3 j k (by omega) hk; rwa [if_pos hj] at this) 1000 0 (row, tot, 1) (by omega) (by omega) ⟨rfl, fun _ _ => rfl, fun _ _ => rfl, fun j k _ _ => by rw [if_neg (by omega)], fun j k _ _ => by rw [if_neg (by omega)]⟩
    obtain ⟨r, e1, a0, a1, a2, a3⟩ := l1
    obtain ⟨q, hq, hq1, hq2⟩ := copies_ok r.1 r.2 0 5 (by omega) (by omega) (by omega)
    refine ⟨(q.1, q.2, nI 5), ?_, fun k hk => ?_, fun k hk => ?_, rfl, fun j k hj hk => ?_, fun j k hj hk => ?_, fun k hk => ?_, fun k hk => ?_⟩
    · unfold f_X5_saves
      rw [e1, Option.bind_some, if_pos (by decide)]
      unfold f_X5_saves_j47
      rw [show (nI 5 - 1) + 1 = nI 5 from by decide, show (0 : Int32) = nI 0 from rfl, hq]
      rfl
    · show q.1 k = _
      rw [hq1, if_neg (by omega)]; exact a0 k hk
    · show q.2 k = _
      rw [hq2, if_neg (by omega)]; exact a1 k hk
    · show q.1 _ = _
      rw [hq1, if_neg (by omega)]; exact a2 j k hj hk
    · show q.2 _ = _
      rw [hq2, if_neg (by omega)]; exact a3 j k hj hk
    · show q.1 _ = _
      rw [hq1, if_pos (by omega), ← a0 k hk]; exact congrArg r.1 (by omega)
    · show q.2 _ = _
      rw [hq2, if_pos (by omega), ← a1 k hk]; exact congrArg r.2 (by omega)
  · simp only [if_neg h5]
    have hne : ¬ nI c = 5 := fun h => h5 (nI_inj (by omega) (by omega) (h : nI c = nI 5))
    obtain ⟨q, hq, hq1, hq2⟩ := copies_ok row tot 0 (c + 1) (by omega) (by omega) (by omega)
    refine ⟨(q.1, q.2, nI (c + 1)), ?_, fun k hk => ?_, fun k hk => ?_, rfl, fun j k hj hk => ?_, fun j k hj hk => ?_, fun k hk => ?_, fun k hk => ?_⟩
    · unfold f_X5_saves
      have e1 : lp (f_X5_saves_b2 (nI c)) 1000 (row, tot, 1) = some (row, tot) := by
        have e0 : f_X5_saves_b2 (nI c) (row, tot, 1) = some (.inr (row, tot)) := by
          unfold f_X5_saves_b2
          show (if (5 : Int32) ≤ 1 then _ else if nI c = 5 then _ else _) = _
          rw [if_neg (by decide), if_neg hne]
        show (f_X5_saves_b2 (nI c) (row, tot, 1)).bind _ = _
        rw [e0]
        rfl
      rw [e1, Option.bind_some, if_neg hne]
      unfold f_X5_saves_j47
      rw [show (nI c - 0) + 1 = nI (c + 1) from by rw [show nI c - 0 = nI c from by simp]; exact nI_1 c, show (0 : Int32) = nI 0 from rfl, hq]
      rfl
    · show q.1 k = _
      rw [hq1, if_neg (by omega)]
    · show q.2 k = _
      rw [hq2, if_neg (by omega)]
    · show q.1 _ = _
      rw [hq1, if_neg (by omega)]
    · show q.2 _ = _
      rw [hq2, if_neg (by omega)]
    · show q.1 _ = _
      rw [hq1, if_pos (by omega)]; exact congrArg row (by omega)
    · show q.2 _ = _
      rw [hq2, if_pos (by omega)]; exact congrArg tot (by omega)
theorem rec_ok {pr pu ta se qu im : Nat → Int32} {su : Nat → Int64} {tc sc rc cn so : Int32} {hs : Nat → SV} {ol ct : Int32} {bt : Nat → Int32} {le : Int32} {row : Nat → Int32} {tot : Nat → Int64} {sav : Int32} {txt : Nat → Int32} {len : Int32} (hI : Inv pr pu ta se qu im su tc sc rc cn so hs ol ct bt le row tot sav txt len) :
    ∃ k q, f_X0_keep pr pu ta se qu im su tc sc rc cn so hs ol ct = some k ∧ f_X5_saves row tot sav = some q ∧ (∀ k, k < 118 → q.1 k = row k) ∧ (∀ k, k < 3 → q.2.1 k = tot k) ∧ Hist k.1 k.2.1 k.2.2 q.1 q.2.1 q.2.2 := by
  obtain ⟨hB, hV, ⟨o, c, rfl, ho, rfl, hc, rfl, hH⟩, -⟩ := hI
  obtain ⟨q, hq, q1, q2, q3, q4, q5, q6, q7⟩ := saves_ok row tot c hc
  have hm : (o + c) % 5 < 5 := Nat.mod_lt _ (by omega)
  obtain ⟨u, hu, huB, huV⟩ := copy_ok pr pu ta se qu im su tc sc rc cn so ((hs ((o + c) % 5)).1) ((hs ((o + c) % 5)).2.1) ((hs ((o + c) % 5)).2.2.1) ((hs ((o + c) % 5)).2.2.2.1) ((hs ((o + c) % 5)).2.2.2.2.1) ((hs ((o + c) % 5)).2.2.2.2.2.1) ((hs ((o + c) % 5)).2.2.2.2.2.2.1) ((hs ((o + c) % 5)).2.2.2.2.2.2.2.1) ((hs ((o + c) % 5)).2.2.2.2.2.2.2.2.1) ((hs ((o + c) % 5)).2.2.2.2.2.2.2.2.2.1) ((hs ((o + c) % 5)).2.2.2.2.2.2.2.2.2.2.1) ((hs ((o + c) % 5)).2.2.2.2.2.2.2.2.2.2.2)
  unfold f_X0_keep
  rw [rem5 o c (by omega), gd_n hm, nI_clamp (by omega), hu, Option.bind_some]
  by_cases h5 : c = 5
  · subst h5
    simp only [↓reduceIte] at q3 q4 q5 q6 q7
    rw [if_pos (by decide)]
    refine ⟨_, q, rfl, hq, q1, q2, ?_⟩
    refine ⟨(o + 1) % 5, 5, ?_, Nat.mod_lt _ (by omega), rfl, by omega, q3, fun j hj => ?_⟩
    · show (nI o + 1) - (nI o + 1) / 5 * 5 = _
      exact rem5 o 1 (by omega)
    · show BRv (updH hs ((o + 5) % 5) u (((o + 1) % 5 + j) % 5)) _ _ _ ∧ Valv (updH hs ((o + 5) % 5) u (((o + 1) % 5 + j) % 5))
      unfold updH
      by_cases h4 : j = 4
      · subst h4
        rw [if_pos (by omega)]
        exact ⟨(huB row tot 0 hB).to (fun k hk => (q6 k hk).trans (by rw [Nat.mul_zero, Nat.zero_add])) (fun k hk => (q7 k hk).trans (by rw [Nat.mul_zero, Nat.zero_add])), huV hV⟩
      · rw [if_neg (by omega)]
        have e : ((o + 1) % 5 + j) % 5 = (o + (j + 1)) % 5 := by omega
        rw [e]
        obtain ⟨a, b⟩ := hH (j + 1) (by omega)
        exact ⟨a.to (fun k hk => q4 j k (by omega) hk) (fun k hk => q5 j k (by omega) hk), b⟩
  · simp only [if_neg h5] at q3 q4 q5 q6 q7
    have hn : ¬ (5 : Int32) ≤ nI c := fun h => by
      have := (nI_leI (a := 5) (b := c) (by omega) (by omega)).mp h
      omega
    rw [if_neg hn]
    refine ⟨_, q, rfl, hq, q1, q2, ?_⟩
    refine ⟨o, c + 1, rfl, ho, nI_1 c, by omega, q3, fun j hj => ?_⟩
    show BRv (updH hs ((o + c) % 5) u ((o + j) % 5)) _ _ _ ∧ Valv (updH hs ((o + c) % 5) u ((o + j) % 5))
    unfold updH
    by_cases h4 : j = c
    · subst h4
      rw [if_pos rfl]
      exact ⟨(huB row tot 0 hB).to (fun k hk => (q6 k hk).trans (by rw [Nat.mul_zero, Nat.zero_add])) (fun k hk => (q7 k hk).trans (by rw [Nat.mul_zero, Nat.zero_add])), huV hV⟩
    · rw [if_neg (by omega)]
      obtain ⟨a, b⟩ := hH j (by omega)
      exact ⟨a.to (fun k hk => q4 j k (by omega) hk) (fun k hk => q5 j k (by omega) hk), b⟩
/-- behind a recorded call the present state is what the record's writes leave -/
theorem BR.same {pr pu ta se qu im : Nat → Int32} {su : Nat → Int64} {tc sc rc cn so : Int32} {row row' : Nat → Int32} {tot tot' : Nat → Int64} (h : BR pr pu ta se qu im su tc sc rc cn so row tot 0) (h1 : ∀ k, k < 118 → row' k = row k) (h2 : ∀ k, k < 3 → tot' k = tot k) : BR pr pu ta se qu im su tc sc rc cn so row' tot' 0 :=
  h.to (fun k hk => by rw [Nat.mul_zero, Nat.zero_add]; exact h1 k hk) (fun k hk => by rw [Nat.mul_zero, Nat.zero_add]; exact h2 k hk)


def sg (D x : Int64) : Int64 := if 0 ≤ lg_cmp D 0 then x else -x
def pos (p a : Int64) : Int32 := if lg_cmp p 0 < 0 then 0 else if 0 < lg_cmp p (20 * a) then 0 else 1
def bitOf (p : Int64) (i : Nat) : Int32 := if lg_cmp p 0 ≤ 0 then 0 else 1 <<< (nI i &&& 31)
def mem3 (i j k m : Nat) : Nat := if m = 0 then i else if m = 1 then j else k
theorem member_ok (i j k m : Nat) (hm : m < 3) : f_X5_member (nI i) (nI j) (nI k) (nI m) = some (nI (mem3 i j k m)) := by
  match m, hm with
  | 0, _ => rfl
  | 1, _ => rfl
  | 2, _ => rfl
theorem lays3 {pr ta row : Nat → Int32} {N i j k : Nat} (hC : Cur pr ta row N) (hi : i < N) (hj : j < N) (hk : k < N) (tab : Nat → Int64) :
    lp (f_X5_looksAt_b15 row (nI i) (nI j) (nI k)) 1000 (tab, 0) = some (laid (laid (laid tab 0 (wP pr i)) 1 (wP pr j)) 2 (wP pr k)) := by
  have s : ∀ n z w, f_X5_looksAt_b15 row (nI i) (nI j) (nI k) z = some (Sum.inl w) → lp (f_X5_looksAt_b15 row (nI i) (nI j) (nI k)) (n + 1) z = lp (f_X5_looksAt_b15 row (nI i) (nI j) (nI k)) n w := by
    intro n z w h
    show (f_X5_looksAt_b15 row (nI i) (nI j) (nI k) z).bind _ = _
    rw [h]; rfl
  have e0 : ∀ t, f_X5_looksAt_b15 row (nI i) (nI j) (nI k) (t, 0) = some (Sum.inl (laid t 0 (wP pr i), 1)) := by
    intro t
    show (f_X5_lays row t (nI 0) (nI i)).bind _ = _
    rw [lays_ok hC hi 0 (by decide)]; rfl
  have e1 : ∀ t, f_X5_looksAt_b15 row (nI i) (nI j) (nI k) (t, 1) = some (Sum.inl (laid t 1 (wP pr j), 2)) := by
    intro t
    show (f_X5_lays row t (nI 1) (nI j)).bind _ = _
    rw [lays_ok hC hj 1 (by decide)]; rfl
  have e2 : ∀ t, f_X5_looksAt_b15 row (nI i) (nI j) (nI k) (t, 2) = some (Sum.inl (laid t 2 (wP pr k), 3)) := by
    intro t
    show (f_X5_lays row t (nI 2) (nI k)).bind _ = _
    rw [lays_ok hC hk 2 (by decide)]; rfl
  have e3 : ∀ n t, lp (f_X5_looksAt_b15 row (nI i) (nI j) (nI k)) (n + 1) (t, 3) = some t := fun n t => rfl
  rw [s 999 _ _ (e0 _), s 998 _ _ (e1 _), s 997 _ _ (e2 _), e3 996]
theorem goal_n (goa tab : Nat → Int64) : lp (f_X5_looksAt_b44 goa (-1)) 1000 (tab, 0) = some tab := rfl
theorem goal_0 (goa tab : Nat → Int64) : lp (f_X5_looksAt_b44 goa 0) 1000 (tab, 0) = some (laid tab 0 goa) := rfl
theorem goal_1 (goa tab : Nat → Int64) : lp (f_X5_looksAt_b44 goa 1) 1000 (tab, 0) = some (laid tab 1 goa) := rfl
theorem goal_2 (goa tab : Nat → Int64) : lp (f_X5_looksAt_b44 goa 2) 1000 (tab, 0) = some (laid tab 2 goa) := rfl
theorem laidG0 {tab A B C G : Nat → Int64} : tabOf (laid (laid (laid (laid tab 0 A) 1 B) 2 C) 0 G) G B C := by
  intro k hk
  unfold laid
  match k, hk with
  | 0, _ => exact ⟨rfl, rfl, rfl⟩
  | 1, _ => exact ⟨rfl, rfl, rfl⟩
  | 2, _ => exact ⟨rfl, rfl, rfl⟩
theorem laidG1 {tab A B C G : Nat → Int64} : tabOf (laid (laid (laid (laid tab 0 A) 1 B) 2 C) 1 G) A G C := by
  intro k hk
  unfold laid
  match k, hk with
  | 0, _ => exact ⟨rfl, rfl, rfl⟩
  | 1, _ => exact ⟨rfl, rfl, rfl⟩
  | 2, _ => exact ⟨rfl, rfl, rfl⟩
theorem laidG2 {tab A B C G : Nat → Int64} : tabOf (laid (laid (laid (laid tab 0 A) 1 B) 2 C) 2 G) A B G := by
  intro k hk
  unfold laid
  match k, hk with
  | 0, _ => exact ⟨rfl, rfl, rfl⟩
  | 1, _ => exact ⟨rfl, rfl, rfl⟩
  | 2, _ => exact ⟨rfl, rfl, rfl⟩
theorem tabs_ok {pr ta row : Nat → Int32} {N i j k : Nat} (hC : Cur pr ta row N) (hi : i < N) (hj : j < N) (hk : k < N) (tab tic goa : Nat → Int64) :
    ∃ T, lp (f_X5_looksAt_b6 row goa (nI i) (nI j) (nI k)) 1000 (tab, tic, 0, (-1)) = some (T, vp_updL (vp_updL (vp_updL tic 0 (det goa (wP pr j) (wP pr k))) 1 (det (wP pr i) goa (wP pr k))) 2 (det (wP pr i) (wP pr j) goa), det (wP pr i) (wP pr j) (wP pr k)) := by
  have s : ∀ n z w, f_X5_looksAt_b6 row goa (nI i) (nI j) (nI k) z = some (Sum.inl w) → lp (f_X5_looksAt_b6 row goa (nI i) (nI j) (nI k)) (n + 1) z = lp (f_X5_looksAt_b6 row goa (nI i) (nI j) (nI k)) n w := by
    intro n z w h
    show (f_X5_looksAt_b6 row goa (nI i) (nI j) (nI k) z).bind _ = _
    rw [h]; rfl
  have en : ∀ t c d, ∃ t', f_X5_looksAt_b6 row goa (nI i) (nI j) (nI k) (t, c, d, (-1)) = some (Sum.inl (t', c, det (wP pr i) (wP pr j) (wP pr k), 0)) := by
    intro t c d
    refine ⟨laid (laid (laid t 0 (wP pr i)) 1 (wP pr j)) 2 (wP pr k), ?_⟩
    show (lp (f_X5_looksAt_b15 row (nI i) (nI j) (nI k)) 1000 (t, 0)).bind _ = _
    rw [lays3 hC hi hj hk, Option.bind_some]
    show (lp (f_X5_looksAt_b44 goa (-1)) 1000 (_, 0)).bind _ = _
    rw [goal_n, Option.bind_some, determined_ok (laid3 _ _ _ _), Option.bind_some]
    show (if (0 : Int32) ≤ -1 then _ else f_X5_looksAt_j98 _ c (-1) _ _) = _
    rw [if_neg (by decide)]
    unfold f_X5_looksAt_j98
    rw [if_pos (by decide)]
    rfl
  have e0 : ∀ t c d, ∃ t', f_X5_looksAt_b6 row goa (nI i) (nI j) (nI k) (t, c, d, 0) = some (Sum.inl (t', vp_updL c 0 (det goa (wP pr j) (wP pr k)), d, 1)) := by
    intro t c d
    refine ⟨laid (laid (laid (laid t 0 (wP pr i)) 1 (wP pr j)) 2 (wP pr k)) 0 goa, ?_⟩
    show (lp (f_X5_looksAt_b15 row (nI i) (nI j) (nI k)) 1000 (t, 0)).bind _ = _
    rw [lays3 hC hi hj hk, Option.bind_some]
    show (lp (f_X5_looksAt_b44 goa 0) 1000 (_, 0)).bind _ = _
    rw [goal_0, Option.bind_some, determined_ok laidG0]
    rfl
  have e1 : ∀ t c d, ∃ t', f_X5_looksAt_b6 row goa (nI i) (nI j) (nI k) (t, c, d, 1) = some (Sum.inl (t', vp_updL c 1 (det (wP pr i) goa (wP pr k)), d, 2)) := by
    intro t c d
    refine ⟨laid (laid (laid (laid t 0 (wP pr i)) 1 (wP pr j)) 2 (wP pr k)) 1 goa, ?_⟩
    show (lp (f_X5_looksAt_b15 row (nI i) (nI j) (nI k)) 1000 (t, 0)).bind _ = _
    rw [lays3 hC hi hj hk, Option.bind_some]
    show (lp (f_X5_looksAt_b44 goa 1) 1000 (_, 0)).bind _ = _
    rw [goal_1, Option.bind_some, determined_ok laidG1]
    rfl
  have e2 : ∀ t c d, ∃ t', f_X5_looksAt_b6 row goa (nI i) (nI j) (nI k) (t, c, d, 2) = some (Sum.inl (t', vp_updL c 2 (det (wP pr i) (wP pr j) goa), d, 3)) := by
    intro t c d
    refine ⟨laid (laid (laid (laid t 0 (wP pr i)) 1 (wP pr j)) 2 (wP pr k)) 2 goa, ?_⟩
    show (lp (f_X5_looksAt_b15 row (nI i) (nI j) (nI k)) 1000 (t, 0)).bind _ = _
    rw [lays3 hC hi hj hk, Option.bind_some]
    show (lp (f_X5_looksAt_b44 goa 2) 1000 (_, 0)).bind _ = _
    rw [goal_2, Option.bind_some, determined_ok laidG2]
    rfl
  have e3 : ∀ n t c d, lp (f_X5_looksAt_b6 row goa (nI i) (nI j) (nI k)) (n + 1) (t, c, d, 3) = some (t, c, d) := fun n t c d => rfl
  obtain ⟨t0, h0⟩ := en tab tic 0
  obtain ⟨t1, h1⟩ := e0 t0 tic (det (wP pr i) (wP pr j) (wP pr k))
  obtain ⟨t2, h2⟩ := e1 t1 (vp_updL tic 0 (det goa (wP pr j) (wP pr k))) (det (wP pr i) (wP pr j) (wP pr k))
  obtain ⟨t3, h3⟩ := e2 t2 (vp_updL (vp_updL tic 0 (det goa (wP pr j) (wP pr k))) 1 (det (wP pr i) goa (wP pr k))) (det (wP pr i) (wP pr j) (wP pr k))
  exact ⟨t3, by rw [s 999 _ _ h0, s 998 _ _ h1, s 997 _ _ h2, s 996 _ _ h3, e3 995]⟩
/-- one member's look -/
theorem look1 {pr ta row : Nat → Int32} {N i j k : Nat} (hC : Cur pr ta row N) (hi : i < N) (hj : j < N) (hk : k < N) (D : Int64) (m : Nat) (hm : m < 3) (tic : Nat → Int64) (ma : Int32) (pc : Int64) (fl : Int32) (hf : fl = 0 ∨ fl = 1) :
    ∃ d, f_X5_dear row (nI (mem3 i j k m)) = some d ∧ f_X5_looksAt_b140 row (nI i) (nI j) (nI k) D (tic, ma, pc, fl, nI m) = some (Sum.inl (vp_updL tic m (sg D (tic m)), ma ||| bitOf (sg D (tic m)) (mem3 i j k m), pc + sg D (tic m) * (pr (7 * mem3 i j k m + 3)).toInt64 * d.toInt64, (if fl = 0 then 0 else pos (sg D (tic m)) (sg D D)), nI (m + 1))) := by
  have hM : mem3 i j k m < N := by unfold mem3; split; · exact hi
                                   split; · exact hj
                                   exact hk
  have hmem := member_ok i j k m hm
  generalize mem3 i j k m = x at hM hmem ⊢
  obtain ⟨d, -, -, hd⟩ := price_of hC hM
  have h3 := (prop_of hC hM 3 (by omega)).2
  refine ⟨d, hd, ?_⟩
  have J264 : ∀ (t : Nat → Int64) (mm : Int32) (f b : Int32), f_X5_looksAt_j264 row t pc f (nI m) (nI x) b mm = some (Sum.inl (t, mm ||| b, pc + t m * (pr (7 * x + 3)).toInt64 * d.toInt64, f, nI (m + 1))) := by
    intro t mm f b
    unfold f_X5_looksAt_j264
    rw [gd_n hm]
    show (f_X5_of row (nI x) (nI 3)).bind _ = _
    rw [h3, Option.bind_some, hd, Option.bind_some, nI_clamp (by omega), show nI m + 1 = nI (m + 1) from nI_add m 1]
  have J240 : ∀ (t : Nat → Int64) (f : Int32), f_X5_looksAt_j240 row t ma pc (nI m) (nI x) f = some (Sum.inl (t, ma ||| bitOf (t m) x, pc + t m * (pr (7 * x + 3)).toInt64 * d.toInt64, f, nI (m + 1))) := by
    intro t f
    unfold f_X5_looksAt_j240 bitOf
    rw [gd_n hm, nI_clamp (by omega)]
    split
    · rw [J264]
    · rw [J264]
  have J187 : ∀ p, f_X5_looksAt_j187 row tic D ma pc fl (nI m) (nI x) p (nI m) = some (Sum.inl (vp_updL tic m p, ma ||| bitOf p x, pc + p * (pr (7 * x + 3)).toInt64 * d.toInt64, (if fl = 0 then 0 else pos p (sg D D)), nI (m + 1))) := by
    intro p
    unfold f_X5_looksAt_j187
    rw [gd_n hm, nI_clamp (by omega)]
    have u : vp_updL tic m p m = p := uL
    have J : ∀ f, f_X5_looksAt_j240 row (vp_updL tic m p) ma pc (nI m) (nI x) f = some (Sum.inl (vp_updL tic m p, ma ||| bitOf p x, pc + p * (pr (7 * x + 3)).toInt64 * d.toInt64, f, nI (m + 1))) := by
      intro f; rw [J240, u]
    by_cases c : fl = 0
    · rw [if_pos c, if_pos c]
      exact J 0
    · rw [if_neg c, if_neg c, gd_n hm, u]
      unfold pos sg
      by_cases c1 : lg_cmp p 0 < 0
      · rw [if_pos c1, if_pos c1]; exact J 0
      · rw [if_neg c1, if_neg c1, gd_n hm]
        by_cases c2 : 0 ≤ lg_cmp D 0
        · rw [if_pos c2, if_pos c2]
          unfold f_X5_looksAt_j230
          by_cases c3 : 0 < lg_cmp p (20 * D)
          · rw [if_pos c3, if_pos c3]; exact J 0
          · rw [if_neg c3, if_neg c3]; exact J 1
        · rw [if_neg c2, if_neg c2]
          unfold f_X5_looksAt_j230
          by_cases c3 : 0 < lg_cmp p (20 * -D)
          · rw [if_pos c3, if_pos c3]; exact J 0
          · rw [if_neg c3, if_neg c3]; exact J 1
  unfold f_X5_looksAt_b140
  show (if (3 : Int32) ≤ nI m then _ else _) = _
  rw [if_neg (show ¬ (3 : Int32) ≤ nI m from nI_ge (b := 3) hm (by omega))]
  show (f_X5_member (nI i) (nI j) (nI k) (nI m)).bind _ = _
  rw [hmem, Option.bind_some]
  show (if 0 ≤ lg_cmp D 0 then gd (ib (nI m) 3) (f_X5_looksAt_j187 row tic D ma pc fl (nI m) (nI x) (tic (nI m).toNatClampNeg) (nI m)) else gd (ib (nI m) 3) (f_X5_looksAt_j187 row tic D ma pc fl (nI m) (nI x) (-(tic (nI m).toNatClampNeg)) (nI m))) = _
  rw [gd_n hm, gd_n hm, nI_clamp (by omega)]
  by_cases c2 : 0 ≤ lg_cmp D 0
  · rw [if_pos c2, J187, show sg D (tic m) = tic m from if_pos c2]
  · rw [if_neg c2, J187, show sg D (tic m) = -(tic m) from if_neg c2]


/-! the selection, one set of three -/
theorem lp_all {ι σ ρ : Type} {P : ι → Prop} {b : ι → σ → Option (σ ⊕ ρ)} (J : Nat → σ → Prop) (e : Nat) (Q : ρ → Prop)
    (h : ∀ i s, i ≤ e → J i s → (i < e ∧ ∃ s', (∀ x, P x → b x s = some (.inl s')) ∧ J (i + 1) s') ∨ (∃ r, (∀ x, P x → b x s = some (.inr r)) ∧ Q r)) :
    ∀ n i s, i ≤ e → e - i < n → J i s → ∃ r, (∀ x, P x → lp (b x) n s = some r) ∧ Q r := by
  intro n
  induction n with
  | zero => intro i s _ h; omega
  | succ n ih =>
    intro i s hi hn hJ
    rcases h i s hi hJ with ⟨hlt, s', e1, hJ'⟩ | ⟨r, e1, hQ⟩
    · obtain ⟨r, f1, hQ⟩ := ih (i + 1) s' hlt (by omega) hJ'
      exact ⟨r, fun x hx => by show (b x s).bind _ = _; rw [e1 x hx]; exact f1 x hx, hQ⟩
    · exact ⟨r, fun x hx => by show (b x s).bind _ = _; rw [e1 x hx]; rfl, hQ⟩
def prT (pr ta : Nat → Int32) (i : Nat) : Int32 := pr (7 * i + 3) * (if ta (1 - tnk pr i) ≤ ta (tnk pr i) then 1 else 2)
section CT
variable {pr ta : Nat → Int32} {N : Nat}
theorem price_of {i : Nat} (hC : Cu pr N) (hi : i < N) : f_X2_priceOfTick pr ta (nI i) = some (prT pr ta i) := by
  obtain ⟨ht, e4⟩ := tnk_of hC hi
  have f1 := fuel_of (ta := ta) hC hi
  have h4 := prop_of hC hi 4 (by omega)
  have h3 := prop_of hC hi 3 (by omega)
  have s1 : (1 : Int32) - nI (tnk pr i) = nI (1 - tnk pr i) := by
    generalize tnk pr i = t at ht
    match t, ht with
    | 0, _ => decide
    | 1, _ => decide
  unfold f_X2_priceOfTick prT
  unfold fuT at f1
  show (f_X2_property pr (nI i) (nI 4)).bind _ = _
  rw [h4, Option.bind_some, e4, s1, gd_n (by omega), nI_clamp (by omega)]
  show (f_X2_property pr (nI i) (nI 3)).bind _ = _
  rw [h3, Option.bind_some, f1, Option.bind_some]
  split <;> rfl
theorem prT_bd {i : Nat} (hC : Cu pr N) (hi : i < N) : 0 ≤ (prT pr ta i).toInt ∧ (prT pr ta i).toInt ≤ 20 := by
  obtain ⟨-, -, -, ⟨f, f1, f2, e3⟩, -⟩ := hC.2 i hi
  unfold prT
  rw [e3]
  split
  · rw [show (1 : Int32) = nI 1 from rfl, pk_mul, nI_toInt (by omega)]; omega
  · rw [show (2 : Int32) = nI 2 from rfl, pk_mul, nI_toInt (by omega)]; omega
def Un (pr : Nat → Int32) (N : Nat) (un : Nat → Nat → Int32) : Prop := ∀ i, i < N → ∀ k, k < 3 → un i k = unitP pr i k
def Tp (pr ta : Nat → Int32) (N : Nat) (tp : Nat → Int32) : Prop := ∀ i, i < N → tp i = prT pr ta i
theorem readRow {i : Nat} (hC : Cu pr N) (hi : i < N) (un : Nat → Nat → Int32) :
    ∃ r, lp (f_X1_readThrusters_b31 pr (nI i)) 1000 (un, 0) = some r ∧ (∀ k, k < 3 → r i k = unitP pr i k) ∧ ∀ j, j ≠ i → r j = un j := by
  have hN := hC.1
  refine lp_run (fun k (s : (Nat → Nat → Int32) × Int32) => s.2 = nI k ∧ (∀ m, m < k → s.1 i m = unitP pr i m) ∧ ∀ j, j ≠ i → s.1 j = un j) 3 _ ?_ 1000 0 _ (by decide) (by decide) ⟨rfl, fun m hm => by omega, fun _ _ => rfl⟩
  rintro k ⟨z, y⟩ hk ⟨hy, h1, h2⟩
  replace hy : y = nI k := hy
  subst hy
  unfold f_X1_readThrusters_b31
  show (k < 3 ∧ ∃ s', (if (3 : Int32) ≤ nI k then _ else _) = _ ∧ _) ∨ (∃ r, (if (3 : Int32) ≤ nI k then _ else _) = _ ∧ _)
  by_cases c : k < 3
  · left
    refine ⟨c, ?_⟩
    rw [if_neg (show ¬ (3 : Int32) ≤ nI k from nI_ge (b := 3) c (by omega)), gd_n (by omega), unit_of hC hi k c, Option.bind_some]
    show ∃ s', gd (ib (nI k) 3) _ = _ ∧ _
    rw [gd_n c]
    refine ⟨_, rfl, nI_add k 1, fun m hm => ?_, fun j hj => ?_⟩
    · show updR z (nI i).toNatClampNeg (upd (z (nI i).toNatClampNeg) (nI k).toNatClampNeg _) i m = _
      rw [nI_clamp (by omega), nI_clamp (by omega), uR]
      by_cases e : m = k
      · subst e; rw [us]
      · rw [uu e]; exact h1 m (by omega)
    · show updR z (nI i).toNatClampNeg _ j = _
      rw [nI_clamp (by omega), uRn hj]; exact h2 j hj
  · have : k = 3 := by omega
    subst this
    right
    exact ⟨_, rfl, h1, h2⟩
theorem readThr (hC : Cu pr N) (un : Nat → Nat → Int32) (tp : Nat → Int32) (ru : Int32) :
    ∃ un' tp', f_X1_readThrusters pr ta (nI N) un tp ru = some (un', tp', runM pr ta N) ∧ Un pr N un' ∧ Tp pr ta N tp' := by
  have hN := hC.1
  have L : ∃ r, lp (f_X1_readThrusters_b10 pr ta (nI N)) 1000 (un, tp, 0) = some r ∧ Un pr N r.1 ∧ Tp pr ta N r.2 := by
    refine lp_run (fun i (s : (Nat → Nat → Int32) × (Nat → Int32) × Int32) => s.2.2 = nI i ∧ Un pr i s.1 ∧ Tp pr ta i s.2.1) N _ ?_ 1000 0 _ (by omega) (by omega) ⟨rfl, fun i hi => by omega, fun i hi => by omega⟩
    rintro i ⟨z, t, y⟩ hi ⟨hy, h1, h2⟩
    replace hy : y = nI i := hy
    replace h1 : Un pr i z := h1
    replace h2 : Tp pr ta i t := h2
    subst hy
    unfold f_X1_readThrusters_b10
    show (i < N ∧ ∃ s', (if nI N ≤ nI i then _ else _) = _ ∧ _) ∨ (∃ r, (if nI N ≤ nI i then _ else _) = _ ∧ _)
    by_cases c : i < N
    · left
      refine ⟨c, ?_⟩
      have p1 := price_of (ta := ta) hC c
      obtain ⟨r, r1, r2, r3⟩ := readRow hC c z
      rw [if_neg (nI_ge c (by omega))]
      show ∃ s', (f_X2_priceOfTick pr ta (nI i)).bind _ = _ ∧ _
      rw [p1, Option.bind_some]
      show ∃ s', gd (ib (nI i) 8) ((lp (f_X1_readThrusters_b31 pr (nI i)) 1000 (z, 0)).bind _) = _ ∧ _
      rw [gd_n (by omega), r1]
      refine ⟨_, rfl, nI_add i 1, fun j hj k hk => ?_, fun j hj => ?_⟩
      · show r j k = _
        by_cases e : j = i
        · subst e; exact r2 k hk
        · rw [r3 j e]; exact h1 j (by omega) k hk
      · show upd t (nI i).toNatClampNeg _ j = _
        rw [nI_clamp (by omega)]
        by_cases e : j = i
        · subst e; rw [us]
        · rw [uu e]; exact h2 j (by omega)
    · have : i = N := by omega
      subst this
      right
      rw [if_pos (Int32.le_refl _)]
      exact ⟨_, rfl, h1, h2⟩
  obtain ⟨⟨a, b⟩, e, h1, h2⟩ := L
  refine ⟨a, b, ?_, h1, h2⟩
  unfold f_X1_readThrusters
  rw [run_of hC, Option.bind_some, e]
  rfl
end CT
theorem fill_ok {sh : Nat → Int64} (h : zL 8 sh) : f_J7_fill_d0a16 sh 0 = some (fun _ => 0) := by
  obtain ⟨r, e, hr⟩ := lp_run (b := f_J7_fill_d0a16_b6 0 8) (fun i s => s = ((fun k => if k < i then 0 else sh k), nI i)) 8 (fun r => r = fun _ => 0) (by
    rintro i s hi rfl
    unfold f_J7_fill_d0a16_b6
    rcases Nat.lt_or_ge i 8 with hlt | hge
    · refine Or.inl ⟨hlt, _, ?_, rfl⟩
      show (if (8 : Int32) ≤ nI i then _ else gd (ib (nI i) 8) (some (Sum.inl (vp_updL (fun k => if k < i then 0 else sh k) (nI i).toNatClampNeg 0, nI i + 1)))) = _
      rw [if_neg (show ¬ (8 : Int32) ≤ nI i from nI_ge (b := 8) hlt (by omega)), gd_n hlt, nI_clamp (by omega), nI_1]
      have e : vp_updL (fun k => if k < i then 0 else sh k) i 0 = fun k => if k < i + 1 then 0 else sh k := by
        funext k
        unfold vp_updL
        by_cases c : k = i
        · subst c; rw [if_pos rfl, if_pos (by omega)]
        · rw [if_neg c]
          show (if k < i then (0 : Int64) else sh k) = _
          by_cases d : k < i
          · rw [if_pos d, if_pos (by omega)]
          · rw [if_neg d, if_neg (by omega)]
      rw [e]
    · have : i = 8 := by omega
      subst this
      refine Or.inr ⟨fun k => if k < 8 then 0 else sh k, ?_, ?_⟩
      · show (if (8 : Int32) ≤ nI 8 then _ else _) = _
        rw [if_pos (by decide)]
      · funext k
        rcases Nat.lt_or_ge k 8 with c | c
        · rw [if_pos c]
        · rw [if_neg (by omega)]; exact h k c) 1000 0 (sh, 0) (by omega) (by omega) (by
          have e : (fun k => if k < 0 then (0 : Int64) else sh k) = sh := by funext k; rw [if_neg (by omega)]
          rw [e]; rfl)
  subst hr
  unfold f_J7_fill_d0a16
  rw [e]; rfl
theorem clear_ok {sh : Nat → Int64} (h : zL 8 sh) (de co : Int64) (ma fo : Int32) : f_X1_clear sh de co ma fo = some ((fun _ => 0), 1, 0, 0, 0) := by
  unfold f_X1_clear
  rw [fill_ok h]; rfl
theorem lg_gt (x y : Int64) : 0 < lg_cmp x y ↔ y < x := by
  unfold lg_cmp
  by_cases c : x > y
  · rw [if_pos c]; exact ⟨fun _ => c, fun _ => by decide⟩
  · rw [if_neg c]
    by_cases d : x = y
    · rw [if_pos d]; exact ⟨fun h => absurd h (by decide), fun h => absurd h c⟩
    · rw [if_neg d]; exact ⟨fun h => absurd h (by decide), fun h => absurd h c⟩
theorem lg_le0 (x : Int64) : lg_cmp x 0 ≤ 0 ↔ x.toInt ≤ 0 := by
  have h := lg_gt x 0
  rw [Int64.lt_iff_toInt_lt] at h
  have z : (0 : Int64).toInt = 0 := by decide
  rw [z] at h
  constructor
  · intro a
    rcases Int.lt_or_le 0 x.toInt with b | b
    · have := h.mpr b
      rw [Int32.lt_iff_toInt_lt] at this; rw [Int32.le_iff_toInt_le] at a
      omega
    · exact b
  · intro a
    rcases lg3 x 0 with b | b | b
    · have := h.mp (by rw [b]; decide)
      omega
    · rw [b]; decide
    · rw [b]; decide
theorem pos_of {p a : Int64} (h : ¬ pos p a = 0) (h0 : 0 < a.toInt) (h1 : a.toInt ≤ 120000) : 0 ≤ p.toInt ∧ p.toInt ≤ 20 * a.toInt := by
  unfold pos at h
  have z : (0 : Int64).toInt = 0 := by decide
  have e : (20 * a : Int64).toInt = 20 * a.toInt := by
    rw [Int64.toInt_mul, show (20 : Int64).toInt = 20 from by decide, bmod64 _ (by omega)]
  by_cases c : lg_cmp p 0 < 0
  · rw [if_pos c] at h; exact absurd rfl h
  · rw [if_neg c] at h
    have c1 : ¬ p < 0 := fun q => c ((lg_neg p 0).mpr q)
    rw [Int64.lt_iff_toInt_lt, z] at c1
    by_cases d : 0 < lg_cmp p (20 * a)
    · rw [if_pos d] at h; exact absurd rfl h
    · have d1 : ¬ 20 * a < p := fun q => d ((lg_gt _ _).mpr q)
      rw [Int64.lt_iff_toInt_lt, e] at d1
      omega
theorem bitOf_at (p : Int64) (i j : Nat) (hi : i < 8) (hj : j < 8) : (bitOf p i).toBitVec.getLsbD j = true ↔ j = i ∧ 0 < p.toInt := by
  unfold bitOf
  by_cases c : lg_cmp p 0 ≤ 0
  · rw [if_pos c, bit_0]
    have := (lg_le0 p).mp c
    exact ⟨fun h => (by cases h), fun h => by omega⟩
  · rw [if_neg c, bit_1 i j hi hj, decide_eq_true_eq]
    have : ¬ p.toInt ≤ 0 := fun h => c ((lg_le0 p).mpr h)
    exact ⟨fun h => ⟨h, by omega⟩, fun h => h.1⟩
def bb (a : Bool) (i : Nat) : Int32 := if a then 1 <<< (nI i &&& 31) else 0
theorem bitOf_bb (p : Int64) (i : Nat) : ∃ a, bitOf p i = bb a i := by
  unfold bitOf bb
  by_cases c : lg_cmp p 0 ≤ 0
  · exact ⟨false, by rw [if_pos c]; rfl⟩
  · exact ⟨true, by rw [if_neg c]; rfl⟩
def MkOK (N : Nat) (ma : Int32) : Prop := ∃ i j k, i < j ∧ j < k ∧ k < N ∧ ∃ a b c, ma = (bb a i ||| bb b j) ||| bb c k
def SelOK (pr ta se : Nat → Int32) (N S : Nat) (T : Nat → Int64) (sh : Nat → Int64) (de co : Int64) (ma fo : Int32) : Prop :=
  zL 8 sh ∧ (0 < de.toInt ∧ de.toInt ≤ 120000) ∧
  ((fo = 0 ∧ ma = 0 ∧ sh = fun _ => 0) ∨
   (fo = 1 ∧ (∀ k, k < 8 → 0 ≤ (sh k).toInt ∧ (sh k).toInt ≤ 20 * de.toInt ∧ (ma.toBitVec.getLsbD k = true ↔ 0 < (sh k).toInt) ∧ (0 < (sh k).toInt → k < N ∧ usb pr ta k = 1)) ∧ (0 ≤ co.toInt ∧ co.toInt ≤ 1200 * de.toInt) ∧ MkOK N ma ∧ f_X2_forbids se (nI S) (ma ||| runM pr ta N) = some 0 ∧ (ma = 0 → ∀ m, m < 3 → T m = 0)))
def Rd (pr ta : Nat → Int32) (N : Nat) (T : Nat → Int64) (x : (Nat → Nat → Int32) × (Nat → Int32)) : Prop := Un pr N x.1 ∧ Tp pr ta N x.2 ∧ ∀ m, m < 3 → (x.1 8 m).toInt64 = T m
theorem cramer (A B C T : Nat → Int64) (m : Nat) (hm : m < 3) : det A B C * T m = det T B C * A m + det A T C * B m + det A B T * C m := by
  unfold det
  match m, hm with
  | 0, _ => grind
  | 1, _ => grind
  | 2, _ => grind
theorem sg0 {D d : Int64} (h : (sg D d).toInt = 0) : d = 0 := by
  have e : sg D d = 0 := Int64.toInt_inj.mp (h.trans (by decide))
  unfold sg at e
  split at e
  · exact e
  · grind
theorem mul_zero_of {D t : Int64} (hD : D.toInt.natAbs ≤ 120000) (hD0 : D.toInt ≠ 0) (ht : t.toInt.natAbs ≤ 2 ^ 31) (h : D * t = 0) : t = 0 := by
  have h1 := congrArg Int64.toInt h
  have hb : (D.toInt * t.toInt).natAbs ≤ 2 ^ 60 := by
    rw [Int.natAbs_mul]
    exact Nat.le_trans (Nat.mul_le_mul hD ht) (by decide)
  rw [Int64.toInt_mul, bmod64 _ hb, show (0 : Int64).toInt = 0 from by decide] at h1
  rcases Int.mul_eq_zero.mp h1 with e | e
  · exact absurd e hD0
  · exact Int64.toInt_inj.mp (e.trans (by decide))
theorem tow_bd (x : Int32) : x.toInt64.toInt.natAbs ≤ 2 ^ 31 := by
  rw [Int32.toInt_toInt64]
  have h1 := Int32.toInt_lt x
  have h2 := Int32.le_toInt x
  omega
theorem cost_bd {p0 p1 p2 a : Int64} {t0 t1 t2 : Int32} (ha0 : 0 < a.toInt) (ha : a.toInt ≤ 120000) (h0 : 0 ≤ p0.toInt ∧ p0.toInt ≤ 20 * a.toInt) (h1 : 0 ≤ p1.toInt ∧ p1.toInt ≤ 20 * a.toInt) (h2 : 0 ≤ p2.toInt ∧ p2.toInt ≤ 20 * a.toInt)
    (g0 : 0 ≤ t0.toInt ∧ t0.toInt ≤ 20) (g1 : 0 ≤ t1.toInt ∧ t1.toInt ≤ 20) (g2 : 0 ≤ t2.toInt ∧ t2.toInt ≤ 20) :
    0 ≤ ((p0 * t0.toInt64 + p1 * t1.toInt64) + p2 * t2.toInt64).toInt ∧ ((p0 * t0.toInt64 + p1 * t1.toInt64) + p2 * t2.toInt64).toInt ≤ 1200 * a.toInt := by
  have one : ∀ (p : Int64) (t : Int32), (0 ≤ p.toInt ∧ p.toInt ≤ 20 * a.toInt) → (0 ≤ t.toInt ∧ t.toInt ≤ 20) → 0 ≤ (p * t.toInt64).toInt ∧ (p * t.toInt64).toInt ≤ 400 * a.toInt := by
    intro p t hp ht
    have m1 : 0 ≤ p.toInt * t.toInt := Int.mul_nonneg hp.1 ht.1
    have m2 : p.toInt * t.toInt ≤ (20 * a.toInt) * 20 := Int.mul_le_mul hp.2 ht.2 ht.1 (by omega)
    rw [Int64.toInt_mul, Int32.toInt_toInt64, bmod64 _ (by omega)]
    omega
  have b0 := one p0 t0 h0 g0
  have b1 := one p1 t1 h1 g1
  have b2 := one p2 t2 h2 g2
  have s1 : (p0 * t0.toInt64 + p1 * t1.toInt64).toInt = (p0 * t0.toInt64).toInt + (p1 * t1.toInt64).toInt := by
    rw [Int64.toInt_add, bmod64 _ (by omega)]
  rw [Int64.toInt_add, s1, bmod64 _ (by omega)]
  omega
theorem or0 {x y : Int32} (h : x ||| y = 0) : ∀ j, x.toBitVec.getLsbD j = false ∧ y.toBitVec.getLsbD j = false := by
  intro j
  have h1 := congrArg (fun z : Int32 => z.toBitVec.getLsbD j) h
  simp only [bit_or, bit_0] at h1
  exact Bool.or_eq_false_iff.mp h1
theorem cons_st {pr ta se : Nat → Int32} {N S : Nat} {T : Nat → Int64} (hC : Cu pr N) (hS : S ≤ 8) (hT : ∀ m, m < 3 → (T m).toInt.natAbs ≤ 2 ^ 31) {i j k : Nat} (hij : i < j) (hjk : j < k) (hk : k < N) (ui : usb pr ta i = 1) (uj : usb pr ta j = 1) (uk : usb pr ta k = 1)
    {sh : Nat → Int64} {de co : Int64} {ma fo : Int32} (h : SelOK pr ta se N S T sh de co ma fo) :
    ∃ c : (Nat → Int64) × Int64 × Int64 × Int32 × Int32, (∀ x, Rd pr ta N T x → f_X1_consider x.1 x.2 (runM pr ta N) se (nI S) sh de co ma fo (nI i) (nI j) (nI k) = some c) ∧ SelOK pr ta se N S T c.1 c.2.1 c.2.2.1 c.2.2.2.1 c.2.2.2.2 := by
  have hN := hC.1
  have hi : i < N := by omega
  have hj : j < N := by omega
  obtain ⟨A, hA⟩ : ∃ A, A = wP pr i := ⟨_, rfl⟩
  obtain ⟨B, hB⟩ : ∃ B, B = wP pr j := ⟨_, rfl⟩
  obtain ⟨C, hCC⟩ : ∃ C, C = wP pr k := ⟨_, rfl⟩
  obtain ⟨D, hD⟩ : ∃ D, D = det A B C := ⟨_, rfl⟩
  obtain ⟨p0, hp0⟩ : ∃ p, p = sg D (det T B C) := ⟨_, rfl⟩
  obtain ⟨p1, hp1⟩ : ∃ p, p = sg D (det A T C) := ⟨_, rfl⟩
  obtain ⟨p2, hp2⟩ : ∃ p, p = sg D (det A B T) := ⟨_, rfl⟩
  obtain ⟨a, ha⟩ : ∃ a, a = sg D D := ⟨_, rfl⟩
  have bdD : bd D 120000 := by rw [hD, hA, hB, hCC]; exact det_bd (unit_bd (hC.2 i hi)) (unit_bd (hC.2 j hj)) (unit_bd (hC.2 k hk))
  have key : ∀ x, Rd pr ta N T x → f_X1_consider x.1 x.2 (runM pr ta N) se (nI S) sh de co ma fo (nI i) (nI j) (nI k) = if lg_cmp D 0 = 0 then some (sh, de, co, ma, fo) else if pos p0 a = 0 then some (sh, de, co, ma, fo) else if pos p1 a = 0 then some (sh, de, co, ma, fo) else if pos p2 a = 0 then some (sh, de, co, ma, fo) else
      (f_X2_forbids se (nI S) (Mk3 i j k p0 p1 p2 ||| runM pr ta N)).bind (fun q => if q = 0 then (if fo = 0 then f_X1_consider_j239 sh de co ma fo (nI i) (nI j) (nI k) a p0 p1 p2 (Mk3 i j k p0 p1 p2) (Pc (prT pr ta) i j k p0 p1 p2) else ((f_X1_isBetter de co ma (Pc (prT pr ta) i j k p0 p1 p2) a (Mk3 i j k p0 p1 p2)).bind (fun q34 => if q34 = 0 then some (sh, de, co, ma, fo) else f_X1_consider_j239 sh de co ma fo (nI i) (nI j) (nI k) a p0 p1 p2 (Mk3 i j k p0 p1 p2) (Pc (prT pr ta) i j k p0 p1 p2)))) else some (sh, de, co, ma, fo)) := by
    intro x hx
    obtain ⟨hU, hTp, hx8⟩ := hx
    have rw_ : ∀ r, r < N → ∀ m, m < 3 → (fun m => (x.1 r m).toInt64) m = wP pr r m := fun r hr m hm => by
      show (x.1 r m).toInt64 = (unitP pr r m).toInt64
      rw [hU r hr m hm]
    have eD : f_X1_determinantOf x.1 (nI i) (nI j) (nI k) = some D := by
      rw [detOf_ok _ _ _ _ (by omega) (by omega) (by omega), hD, hA, hB, hCC]
      exact congrArg some (det_c (rw_ i hi) (rw_ j hj) (rw_ k hk))
    have e0 : f_X1_determinantOf x.1 8 (nI j) (nI k) = some (det T B C) := by
      rw [show (8 : Int32) = nI 8 from rfl, detOf_ok _ _ _ _ (by omega) (by omega) (by omega), hB, hCC]
      exact congrArg some (det_c hx8 (rw_ j hj) (rw_ k hk))
    have e1 : f_X1_determinantOf x.1 (nI i) 8 (nI k) = some (det A T C) := by
      rw [show (8 : Int32) = nI 8 from rfl, detOf_ok _ _ _ _ (by omega) (by omega) (by omega), hA, hCC]
      exact congrArg some (det_c (rw_ i hi) hx8 (rw_ k hk))
    have e2 : f_X1_determinantOf x.1 (nI i) (nI j) 8 = some (det A B T) := by
      rw [show (8 : Int32) = nI 8 from rfl, detOf_ok _ _ _ _ (by omega) (by omega) (by omega), hA, hB]
      exact congrArg some (det_c (rw_ i hi) (rw_ j hj) hx8)
    have hPc : ∀ q0 q1 q2, Pc x.2 i j k q0 q1 q2 = Pc (prT pr ta) i j k q0 q1 q2 := fun q0 q1 q2 => by
      unfold Pc
      rw [hTp i hi, hTp j hj, hTp k hk]
    have K := cons_ok (un := x.1) (tp := x.2) (ru := runM pr ta N) (se := se) (sc := nI S) (sh := sh) (de := de) (co := co) (ma := ma) (fo := fo) (show i < 8 by omega) (show j < 8 by omega) (show k < 8 by omega) eD e0 e1 e2
    simp only [hPc] at K
    rw [hp0, hp1, hp2, ha]
    exact K
  by_cases z0 : lg_cmp D 0 = 0
  · exact ⟨_, fun x hx => by rw [key x hx, if_pos z0], h⟩
  by_cases z1 : pos p0 a = 0
  · exact ⟨_, fun x hx => by rw [key x hx, if_neg z0, if_pos z1], h⟩
  by_cases z2 : pos p1 a = 0
  · exact ⟨_, fun x hx => by rw [key x hx, if_neg z0, if_neg z1, if_pos z2], h⟩
  by_cases z3 : pos p2 a = 0
  · exact ⟨_, fun x hx => by rw [key x hx, if_neg z0, if_neg z1, if_neg z2, if_pos z3], h⟩
  obtain ⟨u, hu, hu01⟩ := forb_of (se := se) hS (Mk3 i j k p0 p1 p2 ||| runM pr ta N)
  replace key := fun x hx => (key x hx).trans (by rw [if_neg z0, if_neg z1, if_neg z2, if_neg z3, hu, Option.bind_some])
  rcases hu01.symm with rfl | rfl
  · exact ⟨_, fun x hx => by rw [key x hx]; rfl, h⟩
  have hab := abs_bd bdD (by decide) z0
  rw [← ha] at hab
  have q0 := pos_of z1 hab.1 hab.2
  have q1 := pos_of z2 hab.1 hab.2
  have q2 := pos_of z3 hab.1 hab.2
  have hJ : f_X1_consider_j239 sh de co ma fo (nI i) (nI j) (nI k) a p0 p1 p2 (Mk3 i j k p0 p1 p2) (Pc (prT pr ta) i j k p0 p1 p2) = some (vp_updL (vp_updL (vp_updL (fun _ => 0) i p0) j p1) k p2, a, Pc (prT pr ta) i j k p0 p1 p2, Mk3 i j k p0 p1 p2, 1) := by
    unfold f_X1_consider_j239
    rw [clear_ok h.1, Option.bind_some, gd_n (by omega), gd_n (by omega), gd_n (by omega), nI_clamp (by omega), nI_clamp (by omega), nI_clamp (by omega)]
  have new : SelOK pr ta se N S T (vp_updL (vp_updL (vp_updL (fun _ => 0) i p0) j p1) k p2) a (Pc (prT pr ta) i j k p0 p1 p2) (Mk3 i j k p0 p1 p2) 1 := by
    refine ⟨((zL.u (n := 8) (fun _ _ => rfl) (by omega) _).u (by omega) _).u (by omega) _, hab, Or.inr ⟨rfl, fun t ht => ?_, ?_, ?_, hu, fun hz m hm => ?_⟩⟩
    · have hbit : (Mk3 i j k p0 p1 p2).toBitVec.getLsbD t = true ↔ (t = i ∧ 0 < p0.toInt) ∨ (t = j ∧ 0 < p1.toInt) ∨ (t = k ∧ 0 < p2.toInt) := by
        unfold Mk3
        rw [bit_or, bit_or, Bool.or_eq_true, Bool.or_eq_true, bitOf_at _ _ _ (by omega) ht, bitOf_at _ _ _ (by omega) ht, bitOf_at _ _ _ (by omega) ht, or_assoc]
      rw [hbit]
      have z : (0 : Int64).toInt = 0 := by decide
      by_cases c2 : t = k
      · subst c2
        rw [uL]
        refine ⟨q2.1, q2.2, ⟨fun e => ?_, fun e => Or.inr (Or.inr ⟨rfl, e⟩)⟩, fun _ => ⟨hk, uk⟩⟩
        rcases e with e | e | e
        · omega
        · omega
        · exact e.2
      · rw [uLn c2]
        by_cases c1 : t = j
        · subst c1
          rw [uL]
          refine ⟨q1.1, q1.2, ⟨fun e => ?_, fun e => Or.inr (Or.inl ⟨rfl, e⟩)⟩, fun _ => ⟨hj, uj⟩⟩
          rcases e with e | e | e
          · omega
          · exact e.2
          · omega
        · rw [uLn c1]
          by_cases c0 : t = i
          · subst c0
            rw [uL]
            refine ⟨q0.1, q0.2, ⟨fun e => ?_, fun e => Or.inl ⟨rfl, e⟩⟩, fun _ => ⟨hi, ui⟩⟩
            rcases e with e | e | e
            · exact e.2
            · omega
            · omega
          · rw [uLn c0]
            show 0 ≤ (0 : Int64).toInt ∧ (0 : Int64).toInt ≤ 20 * a.toInt ∧ _ ∧ _
            rw [z]
            refine ⟨by omega, by omega, ⟨fun e => ?_, fun e => ?_⟩, fun e => ?_⟩
            · rcases e with e | e | e
              · exact absurd e.1 c0
              · exact absurd e.1 c1
              · exact absurd e.1 c2
            · exact absurd e (by show ¬ 0 < (0 : Int64).toInt; decide)
            · exact absurd e (by show ¬ 0 < (0 : Int64).toInt; decide)
    · exact cost_bd hab.1 hab.2 q0 q1 q2 (prT_bd hC hi) (prT_bd hC hj) (prT_bd hC hk)
    · obtain ⟨a0, e0⟩ := bitOf_bb p0 i
      obtain ⟨a1, e1⟩ := bitOf_bb p1 j
      obtain ⟨a2, e2⟩ := bitOf_bb p2 k
      exact ⟨i, j, k, hij, hjk, hk, a0, a1, a2, by unfold Mk3; rw [e0, e1, e2]⟩
    · have hbits := or0 (show (bitOf p0 i ||| bitOf p1 j) ||| bitOf p2 k = 0 from hz)
      have n2 : ¬ 0 < p2.toInt := fun e => by
        have := (bitOf_at p2 k k (by omega) (by omega)).mpr ⟨rfl, e⟩
        rw [(hbits k).2] at this; cases this
      have n1 : ¬ 0 < p1.toInt := fun e => by
        have := (bitOf_at p1 j j (by omega) (by omega)).mpr ⟨rfl, e⟩
        have h2 := (hbits j).1
        rw [bit_or, this, Bool.or_true] at h2; cases h2
      have n0 : ¬ 0 < p0.toInt := fun e => by
        have := (bitOf_at p0 i i (by omega) (by omega)).mpr ⟨rfl, e⟩
        have h2 := (hbits i).1
        rw [bit_or, this, Bool.true_or] at h2; cases h2
      have d0 := sg0 (D := D) (d := det T B C) (by rw [← hp0]; omega)
      have d1 := sg0 (D := D) (d := det A T C) (by rw [← hp1]; omega)
      have d2 := sg0 (D := D) (d := det A B T) (by rw [← hp2]; omega)
      have cr := cramer A B C T m hm
      rw [d0, d1, d2, ← hD] at cr
      refine mul_zero_of bdD (fun e => z0 ((lg_eq0 D 0).mpr (Int64.toInt_inj.mp (e.trans (by decide))))) (hT m hm) (cr.trans ?_)
      grind
  by_cases zf : fo = 0
  · exact ⟨_, fun x hx => by rw [key x hx, if_pos rfl, if_pos zf, hJ], new⟩
  · have hb : ∃ w, f_X1_isBetter de co ma (Pc (prT pr ta) i j k p0 p1 p2) a (Mk3 i j k p0 p1 p2) = some w := by
      unfold f_X1_isBetter
      split
      · exact ⟨_, rfl⟩
      · split
        · split
          · exact ⟨_, rfl⟩
          · exact ⟨_, rfl⟩
        · exact ⟨_, rfl⟩
    obtain ⟨w, hw⟩ := hb
    by_cases zw : w = 0
    · exact ⟨_, fun x hx => by rw [key x hx, if_pos rfl, if_neg zf, hw, Option.bind_some, if_pos zw], h⟩
    · exact ⟨_, fun x hx => by rw [key x hx, if_pos rfl, if_neg zf, hw, Option.bind_some, if_neg zw, hJ], new⟩

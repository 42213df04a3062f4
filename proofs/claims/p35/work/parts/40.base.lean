/-! lemmas that serve whole as well -/
theorem ib_n {k n : Nat} (h : k < n) (hn : n < 2 ^ 31) : ib (nI k) n = true := by
  unfold ib
  have h1 : ¬ (nI k < 0) := nI_pos (by omega)
  have h2 : (nI k).toNatClampNeg = k := nI_clamp (by omega)
  simp only [h1, h2, false_or, Nat.not_le, h, decide_true]
theorem gd_n {α : Type} {k n : Nat} {X : Option α} (h : k < n) (hn : n < 2 ^ 31 := by decide) : gd (ib (nI k) n) X = X := gd_t (ib_n h hn)
theorem gd_e {α : Type} {k n : Nat} {x : Int32} {X : Option α} (e : x = nI k) (h : k < n) (hn : n < 2 ^ 31 := by decide) : gd (ib x n) X = X := by rw [e]; exact gd_n h hn
theorem cl_e {k : Nat} {x : Int32} (e : x = nI k) (h : k < 2 ^ 31 := by omega) : x.toNatClampNeg = k := by rw [e]; exact nI_clamp h
theorem nI_mulL (a b : Nat) : nI a * nI b = nI (a * b) := pk_mul a b
theorem ix7 (i w : Nat) : nI i * 7 + nI w = nI (7 * i + w) := by
  rw [show (7 : Int32) = nI 7 from rfl, pk_mul, nI_add, Nat.mul_comm]
theorem ix3 (i w : Nat) : nI i * 3 + nI w = nI (3 * i + w) := by
  rw [show (3 : Int32) = nI 3 from rfl, pk_mul, nI_add, Nat.mul_comm]
theorem bind_of {α β : Type} {x : Option α} {a : α} {f : α → Option β} (h : x = some a) : x.bind f = f a := by rw [h]; rfl
/-- two loops side by side -/
theorem lp_rel {σ1 σ2 ρ1 ρ2 : Type} {b1 : σ1 → Option (σ1 ⊕ ρ1)} {b2 : σ2 → Option (σ2 ⊕ ρ2)} (J : Nat → σ1 → σ2 → Prop) (e : Nat) (Q : ρ1 → ρ2 → Prop)
    (h : ∀ i s1 s2, i ≤ e → J i s1 s2 → (i < e ∧ ∃ s1' s2', b1 s1 = some (.inl s1') ∧ b2 s2 = some (.inl s2') ∧ J (i + 1) s1' s2') ∨ (∃ r1 r2, b1 s1 = some (.inr r1) ∧ b2 s2 = some (.inr r2) ∧ Q r1 r2)) :
    ∀ n i s1 s2, i ≤ e → e - i < n → J i s1 s2 → ∃ r1 r2, lp b1 n s1 = some r1 ∧ lp b2 n s2 = some r2 ∧ Q r1 r2 := by
  intro n
  induction n with
  | zero => intro i s1 s2 _ h; omega
  | succ n ih =>
    intro i s1 s2 hi hn hJ
    rcases h i s1 s2 hi hJ with ⟨hlt, s1', s2', e1, e2, hJ'⟩ | ⟨r1, r2, e1, e2, hQ⟩
    · obtain ⟨r1, r2, f1, f2, hQ⟩ := ih (i + 1) s1' s2' hlt (by omega) hJ'
      exact ⟨r1, r2, by show (b1 s1).bind _ = _; rw [e1]; exact f1, by show (b2 s2).bind _ = _; rw [e2]; exact f2, hQ⟩
    · exact ⟨r1, r2, by show (b1 s1).bind _ = _; rw [e1]; rfl, by show (b2 s2).bind _ = _; rw [e2]; rfl, hQ⟩
theorem lp_run {σ ρ : Type} {b : σ → Option (σ ⊕ ρ)} (J : Nat → σ → Prop) (e : Nat) (Q : ρ → Prop)
    (h : ∀ i s, i ≤ e → J i s → (i < e ∧ ∃ s', b s = some (.inl s') ∧ J (i + 1) s') ∨ (∃ r, b s = some (.inr r) ∧ Q r)) :
    ∀ n i s, i ≤ e → e - i < n → J i s → ∃ r, lp b n s = some r ∧ Q r := by
  intro n
  induction n with
  | zero => intro i s _ h; omega
  | succ n ih =>
    intro i s hi hn hJ
    rcases h i s hi hJ with ⟨hlt, s', e1, hJ'⟩ | ⟨r, e1, hQ⟩
    · obtain ⟨r, f1, hQ⟩ := ih (i + 1) s' hlt (by omega) hJ'
      exact ⟨r, by show (b s).bind _ = _; rw [e1]; exact f1, hQ⟩
    · exact ⟨r, by show (b s).bind _ = _; rw [e1]; rfl, hQ⟩
/-- a thruster's properties -/
def PV (pr : Nat → Int32) (i : Nat) : Prop :=
  (-10 ≤ (pr (7 * i)).toInt ∧ (pr (7 * i)).toInt ≤ 10) ∧ (-10 ≤ (pr (7 * i + 1)).toInt ∧ (pr (7 * i + 1)).toInt ≤ 10) ∧ (∃ d, d < 4 ∧ pr (7 * i + 2) = nI d) ∧ (∃ f, 1 ≤ f ∧ f ≤ 10 ∧ pr (7 * i + 3) = nI f) ∧ (∃ t, t < 2 ∧ pr (7 * i + 4) = nI t) ∧ (∃ w, 1 ≤ w ∧ w ≤ 10 ∧ pr (7 * i + 5) = nI w) ∧ (∃ z, z < 3 ∧ pr (7 * i + 6) = nI z)
theorem wi (a b c : Int32) : (f_X4_isWithin a b c = some 0 ∧ (a < b ∨ c < a)) ∨ (f_X4_isWithin a b c = some 1 ∧ ¬ a < b ∧ ¬ c < a) := by
  unfold f_X4_isWithin
  by_cases h1 : a < b
  · rw [if_pos h1]; exact Or.inl ⟨rfl, Or.inl h1⟩
  · rw [if_neg h1]
    by_cases h2 : c < a
    · rw [if_pos h2]; exact Or.inl ⟨rfl, Or.inr h2⟩
    · rw [if_neg h2]; exact Or.inr ⟨rfl, h1, h2⟩
theorem nle {a b : Int32} (h : ¬ a < b) : b ≤ a := by rw [Int32.le_iff_toInt_le]; rw [Int32.lt_iff_toInt_lt] at h; omega
/-- from 0 to a number -/
theorem wi0 (a : Int32) (n : Nat) (hn : n < 2 ^ 31) : (f_X4_isWithin a 0 (nI n) = some 0) ∨ (f_X4_isWithin a 0 (nI n) = some 1 ∧ ∃ k, k ≤ n ∧ a = nI k) := by
  rcases wi a 0 (nI n) with h | ⟨h, h1, h2⟩
  · exact Or.inl h.1
  · exact Or.inr ⟨h, nI_of2 (nI_toInt hn) h1 (nle h2)⟩
theorem isThr (N : Nat) (hN : N ≤ 8) (p0 : Int32) : (f_X4_isThruster (nI N) p0 = some 0) ∨ (f_X4_isThruster (nI N) p0 = some 1 ∧ ∃ i, i < N ∧ p0 = nI i) := by
  unfold f_X4_isThruster
  rcases Nat.eq_zero_or_pos N with rfl | hp
  · rcases wi p0 0 (nI 0 - 1) with ⟨h, -⟩ | ⟨h, h1, h2⟩
    · rw [h]; exact Or.inl rfl
    · exfalso
      rw [Int32.lt_iff_toInt_lt] at h1 h2
      have e : (nI 0 - 1).toInt = -1 := by decide
      have e0 : (0 : Int32).toInt = 0 := by decide
      omega
  · have e : nI N - 1 = nI (N - 1) := by
      obtain ⟨M, rfl⟩ : ∃ M, N = M + 1 := ⟨N - 1, by omega⟩
      exact nI_pred M
    rw [e]
    rcases wi0 p0 (N - 1) (by omega) with h | ⟨h, k, hk, hk2⟩
    · rw [h]; exact Or.inl rfl
    · rw [h]; exact Or.inr ⟨rfl, k, by omega, hk2⟩
theorem isPart (p0 : Int32) : (f_X4_isPart p0 = some 0) ∨ (f_X4_isPart p0 = some 1 ∧ ∃ i, i < 3 ∧ p0 = nI i) := by
  unfold f_X4_isPart
  rcases wi0 p0 2 (by omega) with h | ⟨h, k, hk, hk2⟩
  · rw [show (2 : Int32) = nI 2 from rfl, h]; exact Or.inl rfl
  · rw [show (2 : Int32) = nI 2 from rfl, h]; exact Or.inr ⟨rfl, k, by omega, hk2⟩
theorem isTank (p0 : Int32) : (f_X4_isTank p0 = some 0) ∨ (f_X4_isTank p0 = some 1 ∧ ∃ i, i < 2 ∧ p0 = nI i) := by
  unfold f_X4_isTank
  rcases wi0 p0 1 (by omega) with h | ⟨h, k, hk, hk2⟩
  · rw [show (1 : Int32) = nI 1 from rfl, h]; exact Or.inl rfl
  · rw [show (1 : Int32) = nI 1 from rfl, h]; exact Or.inr ⟨rfl, k, by omega, hk2⟩
theorem isPlace (Q : Nat) (hQ : Q ≤ 10) (p0 : Int32) : (f_X4_isPlace (nI Q) p0 = some 0) ∨ (f_X4_isPlace (nI Q) p0 = some 1 ∧ ∃ i, i < Q ∧ p0 = nI i) := by
  unfold f_X4_isPlace
  rcases Nat.eq_zero_or_pos Q with rfl | hp
  · rcases wi p0 0 (nI 0 - 1) with ⟨h, -⟩ | ⟨h, h1, h2⟩
    · rw [h]; exact Or.inl rfl
    · exfalso
      rw [Int32.lt_iff_toInt_lt] at h1 h2
      have e : (nI 0 - 1).toInt = -1 := by decide
      have e0 : (0 : Int32).toInt = 0 := by decide
      omega
  · have e : nI Q - 1 = nI (Q - 1) := by
      obtain ⟨M, rfl⟩ : ∃ M, Q = M + 1 := ⟨Q - 1, by omega⟩
      exact nI_pred M
    rw [e]
    rcases wi0 p0 (Q - 1) (by omega) with h | ⟨h, k, hk, hk2⟩
    · rw [h]; exact Or.inl rfl
    · rw [h]; exact Or.inr ⟨rfl, k, by omega, hk2⟩
theorem n10 : ((1 : Int32) = 0) = False := by decide
theorem prop_ok (pr : Nat → Int32) (i w : Nat) (h : 7 * i + w < 56) : f_X2_property pr (nI i) (nI w) = some (pr (7 * i + w)) := by
  unfold f_X2_property
  rw [ix7, gd_n h, nI_clamp (by omega)]
/-- a part of a unit impulse -/
def unitP (pr : Nat → Int32) (i k : Nat) : Int32 :=
  let d := (pr (7 * i + 2)).toNatClampNeg
  if k = 0 then pr (7 * i + 3) * dX d else if k = 1 then pr (7 * i + 3) * dY d else pr (7 * i + 3) * (pr (7 * i) * dY d - pr (7 * i + 1) * dX d)
theorem nI_inj {a b : Nat} (ha : a < 2 ^ 31) (hb : b < 2 ^ 31) (h : nI a = nI b) : a = b := (nI_eq ha hb).mp h
theorem gdS {α : Type} {k n : Nat} {X : Option α} (h : k < n) (hn : n < 2 ^ 31) : gd (ib (nI k) n) X = X := gd_t (ib_n h hn)
theorem rem5 (o c : Nat) (h : o + c < 2 ^ 31) : (nI o + nI c) - (nI o + nI c) / 5 * 5 = nI ((o + c) % 5) := by
  rw [nI_add, show (5 : Int32) = nI 5 from rfl, pk_rem h (by omega) (by omega)]
theorem cpy0 {α : Type} {f g : Nat → α} {n k : Nat} (h : k < n) : va_cpy f g 0 0 n k = f k := by
  have := pk_cpy_in (f := f) (g := g) (sp := 0) (dp := 0) (n := n) (j := k) (Nat.zero_le _) (by omega)
  rw [this]
  exact congrArg f (by omega)
theorem PV.congr {p p' : Nat → Int32} {i : Nat} (h : ∀ k, k < 56 → p' k = p k) (hi : i < 8) (hp : PV p i) : PV p' i := by
  unfold PV at hp ⊢
  rw [h (7 * i) (by omega), h (7 * i + 1) (by omega), h (7 * i + 2) (by omega), h (7 * i + 3) (by omega), h (7 * i + 4) (by omega), h (7 * i + 5) (by omega), h (7 * i + 6) (by omega)]
  exact hp
theorem us {f : Nat → Int32} {k : Nat} {x : Int32} : upd f k x k = x := pk_us
theorem uu {f : Nat → Int32} {k j : Nat} {x : Int32} (h : j ≠ k) : upd f k x j = f j := pk_un h
theorem i3 (i : Nat) : (3 : Int32) * nI i = nI (3 * i) := pk_mul 3 i
theorem i3r (i : Nat) : nI i * (3 : Int32) = nI (3 * i) := by rw [show (3 : Int32) = nI 3 from rfl, pk_mul, Nat.mul_comm]
theorem ad1 (a b : Nat) : nI a + nI b = nI (a + b) := nI_add a b
theorem ap1 (a : Nat) : nI a + (1 : Int32) = nI (a + 1) := nI_add a 1
theorem ap2 (a : Nat) : nI a + (2 : Int32) = nI (a + 2) := nI_add a 2
theorem ap3 (a : Nat) : nI a + (3 : Int32) = nI (a + 3) := nI_add a 3
theorem am3 (a : Nat) (h : 3 ≤ a) : nI a - (3 : Int32) = nI (a - 3) := pk_sub h
theorem am1 (a : Nat) (h : 1 ≤ a) : nI a - (1 : Int32) = nI (a - 1) := pk_sub h
theorem c0 : (0 : Int32).toNatClampNeg = 0 := by decide
theorem bit_at (x : Int32) (i : Nat) (hi : i < 8) : ((x >>> (nI i &&& 31)) &&& 1) = if x.toBitVec.getLsbD i then 1 else 0 := by
  have key : ∀ (k : Nat) (s : Int32), k < 8 → (s.toBitVec.smod 32).toNat = k → ((x >>> s) &&& 1) = if x.toBitVec.getLsbD k then 1 else 0 := by
    intro k s hk hs
    apply Int32.toBitVec_inj.mp
    rw [Int32.toBitVec_and, Int32.toBitVec_shiftRight, BitVec.sshiftRight', hs]
    apply BitVec.eq_of_getLsbD_eq
    intro j hj
    rw [BitVec.getLsbD_and, BitVec.getLsbD_sshiftRight]
    cases hb : x.toBitVec.getLsbD k with
    | false =>
      rcases Nat.eq_zero_or_pos j with rfl | hp
      · simp [show k < 32 by omega, hb]
        try (rw [← BitVec.getLsbD_eq_getElem]; exact hb)
      · have e1 : (1 : Int32).toBitVec.getLsbD j = false := by
          show (1#32).getLsbD j = false
          rw [BitVec.getLsbD_one]; simp; omega
        rw [e1, Bool.and_false]; simp
    | true =>
      rcases Nat.eq_zero_or_pos j with rfl | hp
      · simp [show k < 32 by omega, hb]
      · have e1 : (1 : Int32).toBitVec.getLsbD j = false := by
          show (1#32).getLsbD j = false
          rw [BitVec.getLsbD_one]; simp; omega
        rw [e1, Bool.and_false]
        exact e1.symm
  match i, hi with
  | 0, _ => exact key 0 _ (by omega) (by decide)
  | 1, _ => exact key 1 _ (by omega) (by decide)
  | 2, _ => exact key 2 _ (by omega) (by decide)
  | 3, _ => exact key 3 _ (by omega) (by decide)
  | 4, _ => exact key 4 _ (by omega) (by decide)
  | 5, _ => exact key 5 _ (by omega) (by decide)
  | 6, _ => exact key 6 _ (by omega) (by decide)
  | 7, _ => exact key 7 _ (by omega) (by decide)
theorem bit_1 (i j : Nat) (hi : i < 8) (hj : j < 8) : ((1 : Int32) <<< (nI i &&& 31)).toBitVec.getLsbD j = decide (j = i) := by
  have h : ∀ i, i < 8 → ∀ j, j < 8 → ((1 : Int32) <<< (nI i &&& 31)).toBitVec.getLsbD j = decide (j = i) := by decide +kernel
  exact h i hi j hj
theorem bit_or (x y : Int32) (j : Nat) : (x ||| y).toBitVec.getLsbD j = (x.toBitVec.getLsbD j || y.toBitVec.getLsbD j) := by
  rw [Int32.toBitVec_or, BitVec.getLsbD_or]
theorem bit_0 (j : Nat) : (0 : Int32).toBitVec.getLsbD j = false := by
  show (0#32).getLsbD j = false
  rw [BitVec.getLsbD_zero]
theorem uL {f : Nat → Int64} {k : Nat} {x : Int64} : vp_updL f k x k = x := by unfold vp_updL; simp
theorem uLn {f : Nat → Int64} {k j : Nat} {x : Int64} (h : j ≠ k) : vp_updL f k x j = f j := by unfold vp_updL; simp [h]
/-- the determinant of three rows -/
def det (A B C : Nat → Int64) : Int64 := ((A 0 * (B 1 * C 2 - B 2 * C 1)) - (A 1 * (B 0 * C 2 - B 2 * C 0))) + (A 2 * (B 0 * C 1 - B 1 * C 0))
def wP (pr : Nat → Int32) (i : Nat) : Nat → Int64 := fun k => (unitP pr i k).toInt64
theorem detOf_ok (un : Nat → Nat → Int32) (a b c : Nat) (ha : a < 9) (hb : b < 9) (hc : c < 9) : f_X1_determinantOf un (nI a) (nI b) (nI c) = some (det (fun k => (un a k).toInt64) (fun k => (un b k).toInt64) (fun k => (un c k).toInt64)) := by
  unfold f_X1_determinantOf
  rw [gd_n ha, gd_n hb, gd_n hc, nI_clamp (by omega), nI_clamp (by omega), nI_clamp (by omega)]
  rfl
theorem uR {un : Nat → Nat → Int32} {k : Nat} {f : Nat → Int32} : updR un k f k = f := by unfold updR; simp
theorem uRn {un : Nat → Nat → Int32} {k j : Nat} {f : Nat → Int32} (h : j ≠ k) : updR un k f j = un j := by unfold updR; simp [h]
theorem det_c {A B C A' B' C' : Nat → Int64} (ha : ∀ k, k < 3 → A k = A' k) (hb : ∀ k, k < 3 → B k = B' k) (hc : ∀ k, k < 3 → C k = C' k) : det A B C = det A' B' C' := by
  unfold det
  rw [ha 0 (by decide), ha 1 (by decide), ha 2 (by decide), hb 0 (by decide), hb 1 (by decide), hb 2 (by decide), hc 0 (by decide), hc 1 (by decide), hc 2 (by decide)]
def bd (x : Int64) (X : Nat) : Prop := x.toInt.natAbs ≤ X
def bs (x : Int32) (X : Nat) : Prop := x.toInt.natAbs ≤ X
theorem bmod64 (z : Int) (h : z.natAbs ≤ 2 ^ 60) : z.bmod (2 ^ 64) = z := by
  rw [Int.bmod_def]; split <;> omega
theorem bmod32 (z : Int) (h : z.natAbs ≤ 2 ^ 30) : z.bmod (2 ^ 32) = z := by
  rw [Int.bmod_def]; split <;> omega
theorem bd_mul {x y : Int64} {X Y : Nat} (h1 : bd x X) (h2 : bd y Y) (h : X * Y ≤ 2 ^ 60) : bd (x * y) (X * Y) := by
  have e : (x.toInt * y.toInt).natAbs ≤ X * Y := by rw [Int.natAbs_mul]; exact Nat.mul_le_mul h1 h2
  unfold bd
  rw [Int64.toInt_mul, bmod64 _ (Nat.le_trans e h)]; exact e
theorem bd_sub {x y : Int64} {X Y : Nat} (h1 : bd x X) (h2 : bd y Y) (h : X + Y ≤ 2 ^ 60) : bd (x - y) (X + Y) := by
  unfold bd at *
  rw [Int64.toInt_sub, bmod64 _ (by omega)]; omega
theorem bd_add {x y : Int64} {X Y : Nat} (h1 : bd x X) (h2 : bd y Y) (h : X + Y ≤ 2 ^ 60) : bd (x + y) (X + Y) := by
  unfold bd at *
  rw [Int64.toInt_add, bmod64 _ (by omega)]; omega
theorem bs_mul {x y : Int32} {X Y : Nat} (h1 : bs x X) (h2 : bs y Y) (h : X * Y ≤ 2 ^ 30) : bs (x * y) (X * Y) := by
  have e : (x.toInt * y.toInt).natAbs ≤ X * Y := by rw [Int.natAbs_mul]; exact Nat.mul_le_mul h1 h2
  unfold bs
  rw [Int32.toInt_mul, bmod32 _ (Nat.le_trans e h)]; exact e
theorem bs_sub {x y : Int32} {X Y : Nat} (h1 : bs x X) (h2 : bs y Y) (h : X + Y ≤ 2 ^ 30) : bs (x - y) (X + Y) := by
  unfold bs at *
  rw [Int32.toInt_sub, bmod32 _ (by omega)]; omega
theorem bs_up {x : Int32} {X : Nat} (h : bs x X) : bd x.toInt64 X := by
  unfold bd; rw [Int32.toInt_toInt64]; exact h
theorem bs_d : ∀ d, d < 4 → (dX d).toInt.natAbs ≤ 1 ∧ (dY d).toInt.natAbs ≤ 1 := by decide
theorem bs_n (n : Nat) (h : n < 2 ^ 31) : bs (nI n) n := by
  unfold bs; rw [nI_toInt h]; omega
theorem unit_bd {pr : Nat → Int32} {i : Nat} (h : PV pr i) : bd (wP pr i 0) 10 ∧ bd (wP pr i 1) 10 ∧ bd (wP pr i 2) 200 := by
  obtain ⟨h0, h1, ⟨d, hd, e2⟩, ⟨f, f1, f2, e3⟩, -⟩ := h
  have hb := bs_d d hd
  have hf : bs (pr (7 * i + 3)) 10 := by rw [e3]; exact Nat.le_trans (bs_n f (by omega)) f2
  have hx : bs (pr (7 * i)) 10 := by unfold bs; omega
  have hy : bs (pr (7 * i + 1)) 10 := by unfold bs; omega
  unfold wP unitP
  rw [e2, nI_clamp (by omega)]
  exact ⟨bs_up (bs_mul hf hb.1 (by decide)), bs_up (bs_mul hf hb.2 (by decide)), bs_up (bs_mul hf (bs_sub (bs_mul hx hb.2 (by decide)) (bs_mul hy hb.1 (by decide)) (by decide)) (by decide))⟩
theorem det_bd {A B C : Nat → Int64} (ha : bd (A 0) 10 ∧ bd (A 1) 10 ∧ bd (A 2) 200) (hb : bd (B 0) 10 ∧ bd (B 1) 10 ∧ bd (B 2) 200) (hc : bd (C 0) 10 ∧ bd (C 1) 10 ∧ bd (C 2) 200) : bd (det A B C) 120000 := by
  unfold det
  exact bd_add (bd_sub (bd_mul ha.1 (bd_sub (bd_mul hb.2.1 hc.2.2 (by decide)) (bd_mul hb.2.2 hc.2.1 (by decide)) (by decide)) (by decide)) (bd_mul ha.2.1 (bd_sub (bd_mul hb.1 hc.2.2 (by decide)) (bd_mul hb.2.2 hc.1 (by decide)) (by decide)) (by decide)) (by decide)) (bd_mul ha.2.2 (bd_sub (bd_mul hb.1 hc.2.1 (by decide)) (bd_mul hb.2.1 hc.1 (by decide)) (by decide)) (by decide)) (by decide)
theorem lg_eq0 (x y : Int64) : lg_cmp x y = 0 ↔ x = y := by
  unfold lg_cmp
  constructor
  · intro h
    by_cases c : x > y
    · rw [if_pos c] at h; exact absurd h (by decide)
    · rw [if_neg c] at h
      by_cases d : x = y
      · exact d
      · rw [if_neg d] at h; exact absurd h (by decide)
  · intro h
    subst h
    rw [if_neg (by simp), if_pos rfl]
theorem lg_neg (x y : Int64) : lg_cmp x y < 0 ↔ x < y := by
  unfold lg_cmp
  by_cases c : x > y
  · rw [if_pos c]
    exact ⟨fun h => absurd h (by decide), fun h => absurd (Int64.lt_trans h c) (Int64.lt_irrefl)⟩
  · rw [if_neg c]
    by_cases d : x = y
    · rw [if_pos d]; subst d
      exact ⟨fun h => absurd h (by decide), fun h => absurd h (Int64.lt_irrefl)⟩
    · rw [if_neg d]
      refine ⟨fun _ => ?_, fun _ => by decide⟩
      rw [Int64.lt_iff_toInt_lt]
      rw [gt_iff_lt, Int64.lt_iff_toInt_lt] at c
      have : x.toInt ≠ y.toInt := fun e => d (Int64.toInt_inj.mp e)
      omega
theorem lg3 (x y : Int64) : lg_cmp x y = 1 ∨ lg_cmp x y = 0 ∨ lg_cmp x y = -1 := by
  unfold lg_cmp
  split
  · exact .inl rfl
  · split
    · exact .inr (.inl rfl)
    · exact .inr (.inr rfl)
theorem lg_ge (x y : Int64) : 0 ≤ lg_cmp x y ↔ ¬ lg_cmp x y < 0 := by
  rcases lg3 x y with h | h | h <;> rw [h] <;> decide
theorem lg_le (x y : Int64) : lg_cmp x y ≤ 0 ↔ lg_cmp x y = 0 ∨ lg_cmp x y < 0 := by
  rcases lg3 x y with h | h | h <;> rw [h] <;> decide
theorem ifE {α : Type} {c : Prop} [Decidable c] {a b b' : α} (h : b = b') : (if c then a else b) = if c then a else b' := by rw [h]
def sg (D x : Int64) : Int64 := if 0 ≤ lg_cmp D 0 then x else -x
def pos (p a : Int64) : Int32 := if lg_cmp p 0 < 0 then 0 else if 0 < lg_cmp p (20 * a) then 0 else 1
def bitOf (p : Int64) (i : Nat) : Int32 := if lg_cmp p 0 ≤ 0 then 0 else 1 <<< (nI i &&& 31)
theorem abs_bd {D : Int64} {X : Nat} (h : bd D X) (hX : X ≤ 2 ^ 60) (h0 : ¬ lg_cmp D 0 = 0) : 0 < (sg D D).toInt ∧ (sg D D).toInt ≤ X := by
  have n0 : D.toInt ≠ 0 := fun e => h0 ((lg_eq0 D 0).mpr (Int64.toInt_inj.mp (e.trans (by decide))))
  have z : (0 : Int64).toInt = 0 := by decide
  unfold bd at h
  unfold sg
  split
  · rename_i c
    have : ¬ D < 0 := fun e => (lg_ge D 0).mp c ((lg_neg D 0).mpr e)
    rw [Int64.lt_iff_toInt_lt, z] at this
    omega
  · rename_i c
    have : D < 0 := (lg_neg D 0).mp (Classical.byContradiction fun e => c ((lg_ge D 0).mpr e))
    rw [Int64.lt_iff_toInt_lt, z] at this
    rw [Int64.toInt_neg, bmod64 _ (by omega)]
    omega
theorem bitIf_ok (p : Int64) (i : Nat) {α : Type} (K : Int32 → Option α) : (if lg_cmp p 0 ≤ 0 then K 0 else K 1) = K (if lg_cmp p 0 ≤ 0 then 0 else 1) := by
  split <;> rfl
theorem bitIf_of (p : Int64) (i : Nat) : f_X1_bitIf (if lg_cmp p 0 ≤ 0 then 0 else 1) (nI i) = some (bitOf p i) := by
  unfold bitOf
  split <;> rfl
theorem possible_of (p a : Int64) : f_X1_isPossible p a = some (pos p a) := by
  unfold f_X1_isPossible pos
  split
  · rfl
  · split <;> rfl
theorem one_w (x : Int64) : (1 : Int32).toInt64 * x = x ∧ x * (1 : Int32).toInt64 = x ∧ (-1 : Int32).toInt64 * x = -x ∧ x * (-1 : Int32).toInt64 = -x := by
  rw [show (1 : Int32).toInt64 = 1 from by decide, show (-1 : Int32).toInt64 = -1 from by decide]
  refine ⟨by grind, by grind, by grind, by grind⟩
/-- what a set of three is worth -/
def Pc (tp : Nat → Int32) (i j k : Nat) (p0 p1 p2 : Int64) : Int64 := ((p0 * (tp i).toInt64) + (p1 * (tp j).toInt64)) + (p2 * (tp k).toInt64)
def Mk3 (i j k : Nat) (p0 p1 p2 : Int64) : Int32 := (bitOf p0 i ||| bitOf p1 j) ||| bitOf p2 k
theorem cons_ok {un : Nat → Nat → Int32} {tp : Nat → Int32} {ru : Int32} {se : Nat → Int32} {sc : Int32} {sh : Nat → Int64} {de co : Int64} {ma fo : Int32} {i j k : Nat} (hi : i < 8) (hj : j < 8) (hk : k < 8)
    {D d0 d1 d2 : Int64} (eD : f_X1_determinantOf un (nI i) (nI j) (nI k) = some D) (e0 : f_X1_determinantOf un 8 (nI j) (nI k) = some d0) (e1 : f_X1_determinantOf un (nI i) 8 (nI k) = some d1) (e2 : f_X1_determinantOf un (nI i) (nI j) 8 = some d2) :
    f_X1_consider un tp ru se sc sh de co ma fo (nI i) (nI j) (nI k) = if lg_cmp D 0 = 0 then some (sh, de, co, ma, fo) else if pos (sg D d0) (sg D D) = 0 then some (sh, de, co, ma, fo) else if pos (sg D d1) (sg D D) = 0 then some (sh, de, co, ma, fo) else if pos (sg D d2) (sg D D) = 0 then some (sh, de, co, ma, fo) else
      (f_X2_forbids se sc (Mk3 i j k (sg D d0) (sg D d1) (sg D d2) ||| ru)).bind (fun q => if q = 0 then (if fo = 0 then f_X1_consider_j239 sh de co ma fo (nI i) (nI j) (nI k) (sg D D) (sg D d0) (sg D d1) (sg D d2) (Mk3 i j k (sg D d0) (sg D d1) (sg D d2)) (Pc tp i j k (sg D d0) (sg D d1) (sg D d2)) else ((f_X1_isBetter de co ma (Pc tp i j k (sg D d0) (sg D d1) (sg D d2)) (sg D D) (Mk3 i j k (sg D d0) (sg D d1) (sg D d2))).bind (fun q34 => if q34 = 0 then some (sh, de, co, ma, fo) else f_X1_consider_j239 sh de co ma fo (nI i) (nI j) (nI k) (sg D D) (sg D d0) (sg D d1) (sg D d2) (Mk3 i j k (sg D d0) (sg D d1) (sg D d2)) (Pc tp i j k (sg D d0) (sg D d1) (sg D d2))))) else some (sh, de, co, ma, fo)) := by
  have J30 : ∀ t : Int32, (∀ x, t.toInt64 * x = sg D x ∧ x * t.toInt64 = sg D x) → f_X1_consider_j30 un tp sh de co ma ru fo se sc (nI i) (nI j) (nI k) D t = if pos (sg D d0) (sg D D) = 0 then some (sh, de, co, ma, fo) else if pos (sg D d1) (sg D D) = 0 then some (sh, de, co, ma, fo) else if pos (sg D d2) (sg D D) = 0 then some (sh, de, co, ma, fo) else
      (f_X2_forbids se sc (Mk3 i j k (sg D d0) (sg D d1) (sg D d2) ||| ru)).bind (fun q => if q = 0 then (if fo = 0 then f_X1_consider_j239 sh de co ma fo (nI i) (nI j) (nI k) (sg D D) (sg D d0) (sg D d1) (sg D d2) (Mk3 i j k (sg D d0) (sg D d1) (sg D d2)) (Pc tp i j k (sg D d0) (sg D d1) (sg D d2)) else ((f_X1_isBetter de co ma (Pc tp i j k (sg D d0) (sg D d1) (sg D d2)) (sg D D) (Mk3 i j k (sg D d0) (sg D d1) (sg D d2))).bind (fun q34 => if q34 = 0 then some (sh, de, co, ma, fo) else f_X1_consider_j239 sh de co ma fo (nI i) (nI j) (nI k) (sg D D) (sg D d0) (sg D d1) (sg D d2) (Mk3 i j k (sg D d0) (sg D d1) (sg D d2)) (Pc tp i j k (sg D d0) (sg D d1) (sg D d2))))) else some (sh, de, co, ma, fo)) := by
    intro t ht
    unfold f_X1_consider_j30
    rw [e0, Option.bind_some, e1, Option.bind_some, e2, Option.bind_some, (ht d0).1, (ht d1).1, (ht d2).1, (ht D).2, possible_of, possible_of, possible_of, Option.bind_some, Option.bind_some, Option.bind_some]
    refine ifE (ifE (ifE ?_))
    rw [bitIf_ok (sg D d0) i (fun b => f_X1_consider_j127 tp sh de co ma ru fo se sc (nI i) (nI j) (nI k) (sg D D) (sg D d0) (sg D d1) (sg D d2) b)]
    unfold f_X1_consider_j127
    rw [bitIf_of, Option.bind_some, bitIf_ok (sg D d1) j (fun b => f_X1_consider_j143 tp sh de co ma ru fo se sc (nI i) (nI j) (nI k) (sg D D) (sg D d0) (sg D d1) (sg D d2) b (bitOf (sg D d0) i))]
    unfold f_X1_consider_j143
    rw [bitIf_of, Option.bind_some, bitIf_ok (sg D d2) k (fun b => f_X1_consider_j160 tp sh de co ma ru fo se sc (nI i) (nI j) (nI k) (sg D D) (sg D d0) (sg D d1) (sg D d2) b (bitOf (sg D d0) i ||| bitOf (sg D d1) j))]
    unfold f_X1_consider_j160
    rw [bitIf_of, Option.bind_some, gd_n hi, gd_n hj, gd_n hk, nI_clamp (by omega), nI_clamp (by omega), nI_clamp (by omega)]
    rfl
  unfold f_X1_consider
  rw [eD, Option.bind_some]
  refine ifE ?_
  by_cases c : 0 ≤ lg_cmp D 0
  · rw [if_pos c]
    exact J30 1 (fun x => by unfold sg; rw [if_pos c]; exact ⟨(one_w x).1, (one_w x).2.1⟩)
  · rw [if_neg c]
    exact J30 (-1) (fun x => by unfold sg; rw [if_neg c]; exact ⟨(one_w x).2.2.1, (one_w x).2.2.2⟩)

/-! what class and reference agree on -/
theorem ib_n {k n : Nat} (h : k < n) (hn : n < 2 ^ 31) : ib (nI k) n = true := by
  unfold ib
  have h1 : ¬ (nI k < 0) := nI_pos (by omega)
  have h2 : (nI k).toNatClampNeg = k := nI_clamp (by omega)
  simp only [h1, h2, false_or, Nat.not_le, h, decide_true]
theorem gd_n {α : Type} {k n : Nat} {X : Option α} (h : k < n) (hn : n < 2 ^ 31 := by decide) : gd (ib (nI k) n) X = X := gd_t (ib_n h hn)
theorem gd_e {α : Type} {k n : Nat} {x : Int32} {X : Option α} (e : x = nI k) (h : k < n) (hn : n < 2 ^ 31 := by decide) : gd (ib x n) X = X := by rw [e]; exact gd_n h hn
theorem cl_e {k : Nat} {x : Int32} (e : x = nI k) (h : k < 2 ^ 31 := by omega) : x.toNatClampNeg = k := by rw [e]; exact nI_clamp h
theorem nI_mulL (a b : Nat) : nI a * nI b = nI (a * b) := pk_mul a b
theorem ix7 (i w : Nat) : nI i * 7 + nI w = nI (7 * i + w) := by
  rw [show (7 : Int32) = nI 7 from rfl, pk_mul, nI_add, Nat.mul_comm]
theorem ix1 (i w : Nat) : (1 + 7 * nI i) + nI w = nI (1 + 7 * i + w) := by
  rw [show (7 : Int32) = nI 7 from rfl, show (1 : Int32) = nI 1 from rfl, pk_mul, nI_add, nI_add]
theorem ix3 (i w : Nat) : nI i * 3 + nI w = nI (3 * i + w) := by
  rw [show (3 : Int32) = nI 3 from rfl, pk_mul, nI_add, Nat.mul_comm]
theorem bind_of {α β : Type} {x : Option α} {a : α} {f : α → Option β} (h : x = some a) : x.bind f = f a := by rw [h]; rfl
/-- two loops side by side -/
theorem lp_rel {σ1 σ2 ρ1 ρ2 : Type} {b1 : σ1 → Option (σ1 ⊕ ρ1)} {b2 : σ2 → Option (σ2 ⊕ ρ2)} (J : Nat → σ1 → σ2 → Prop) (e : Nat) (Q : ρ1 → ρ2 → Prop)
    (h : ∀ i s1 s2, i ≤ e → J i s1 s2 → (i < e ∧ ∃ s1' s2', b1 s1 = some (.inl s1') ∧ b2 s2 = some (.inl s2') ∧ J (i + 1) s1' s2') ∨ (∃ r1 r2, b1 s1 = some (.inr r1) ∧ b2 s2 = some (.inr r2) ∧ Q r1 r2)) :
    ∀ n i s1 s2, i ≤ e → e - i < n → J i s1 s2 → ∃ r1 r2, lp b1 n s1 = some r1 ∧ lp b2 n s2 = some r2 ∧ Q r1 r2 := by
  intro n
  induction n with
  | zero => intro i s1 s2 _ h; omega
  | succ n ih =>
    intro i s1 s2 hi hn hJ
    rcases h i s1 s2 hi hJ with ⟨hlt, s1', s2', e1, e2, hJ'⟩ | ⟨r1, r2, e1, e2, hQ⟩
    · obtain ⟨r1, r2, f1, f2, hQ⟩ := ih (i + 1) s1' s2' hlt (by omega) hJ'
      exact ⟨r1, r2, by show (b1 s1).bind _ = _; rw [e1]; exact f1, by show (b2 s2).bind _ = _; rw [e2]; exact f2, hQ⟩
    · exact ⟨r1, r2, by show (b1 s1).bind _ = _; rw [e1]; rfl, by show (b2 s2).bind _ = _; rw [e2]; rfl, hQ⟩
theorem lp_run {σ ρ : Type} {b : σ → Option (σ ⊕ ρ)} (J : Nat → σ → Prop) (e : Nat) (Q : ρ → Prop)
    (h : ∀ i s, i ≤ e → J i s → (i < e ∧ ∃ s', b s = some (.inl s') ∧ J (i + 1) s') ∨ (∃ r, b s = some (.inr r) ∧ Q r)) :
    ∀ n i s, i ≤ e → e - i < n → J i s → ∃ r, lp b n s = some r ∧ Q r := by
  intro n
  induction n with
  | zero => intro i s _ h; omega
  | succ n ih =>
    intro i s hi hn hJ
    rcases h i s hi hJ with ⟨hlt, s', e1, hJ'⟩ | ⟨r, e1, hQ⟩
    · obtain ⟨r, f1, hQ⟩ := ih (i + 1) s' hlt (by omega) hJ'
      exact ⟨r, by show (b s).bind _ = _; rw [e1]; exact f1, hQ⟩
    · exact ⟨r, by show (b s).bind _ = _; rw [e1]; rfl, hQ⟩
/-! the invariant -/
def BR (pr pu ta se qu im : Nat → Int32) (su : Nat → Int64) (tc sc rc cn so : Int32) (row : Nat → Int32) (tot : Nat → Int64) (b : Nat) : Prop :=
  (∀ k, k < 56 → row (118 * b + 1 + k) = pr k) ∧ (∀ k, k < 8 → row (118 * b + 108 + k) = pu k) ∧ (∀ k, k < 2 → row (118 * b + 57 + k) = ta k) ∧ (∀ k, k < 8 → row (118 * b + 60 + k) = se k) ∧ (∀ k, k < 30 → row (118 * b + 69 + k) = qu k) ∧ (∀ k, k < 9 → row (118 * b + 99 + k) = im k) ∧ (∀ k, k < 3 → tot (3 * b + k) = su k) ∧
  row (118 * b) = tc ∧ row (118 * b + 59) = sc ∧ row (118 * b + 68) = rc ∧ row (118 * b + 117) = cn ∧ row (118 * b + 116) = so
/-- a thruster's properties -/
def PV (pr : Nat → Int32) (i : Nat) : Prop :=
  (-10 ≤ (pr (7 * i)).toInt ∧ (pr (7 * i)).toInt ≤ 10) ∧ (-10 ≤ (pr (7 * i + 1)).toInt ∧ (pr (7 * i + 1)).toInt ≤ 10) ∧ (∃ d, d < 4 ∧ pr (7 * i + 2) = nI d) ∧ (∃ f, 1 ≤ f ∧ f ≤ 10 ∧ pr (7 * i + 3) = nI f) ∧ (∃ t, t < 2 ∧ pr (7 * i + 4) = nI t) ∧ (∃ w, 1 ≤ w ∧ w ≤ 10 ∧ pr (7 * i + 5) = nI w) ∧ (∃ z, z < 3 ∧ pr (7 * i + 6) = nI z)
def Val (pr se : Nat → Int32) (tc sc rc so : Int32) : Prop :=
  ∃ N S Q : Nat, tc = nI N ∧ N ≤ 8 ∧ sc = nI S ∧ S ≤ 8 ∧ rc = nI Q ∧ Q ≤ 10 ∧ (∀ i, i < N → PV pr i) ∧ (∀ i j, i < S → j < S → se i = se j → i = j) ∧ ∀ i, N ≤ i → i < 8 → ¬ ((so >>> (nI i &&& 31)) &&& 1) = 1
def BRv (u : SV) (row : Nat → Int32) (tot : Nat → Int64) (b : Nat) : Prop := BR u.1 u.2.1 u.2.2.1 u.2.2.2.1 u.2.2.2.2.1 u.2.2.2.2.2.1 u.2.2.2.2.2.2.1 u.2.2.2.2.2.2.2.1 u.2.2.2.2.2.2.2.2.1 u.2.2.2.2.2.2.2.2.2.1 u.2.2.2.2.2.2.2.2.2.2.1 u.2.2.2.2.2.2.2.2.2.2.2 row tot b
def Valv (u : SV) : Prop := Val u.1 u.2.2.2.1 u.2.2.2.2.2.2.2.1 u.2.2.2.2.2.2.2.2.1 u.2.2.2.2.2.2.2.2.2.1 u.2.2.2.2.2.2.2.2.2.2.2
def Hist (hs : Nat → SV) (ol ct : Int32) (row : Nat → Int32) (tot : Nat → Int64) (sav : Int32) : Prop :=
  ∃ o c : Nat, ol = nI o ∧ o < 5 ∧ ct = nI c ∧ c ≤ 5 ∧ sav = nI c ∧ ∀ j, j < c → BRv (hs ((o + j) % 5)) row tot (j + 1) ∧ Valv (hs ((o + j) % 5))
def Txt (bt : Nat → Int32) (le : Int32) (txt : Nat → Int32) (len : Int32) : Prop :=
  ∃ n : Nat, n ≤ 100 ∧ le = nI n ∧ len = nI n ∧ ∀ k, k < 100 → txt k = bt k ∧ ∃ z, z < 256 ∧ bt k = nI z
def Inv (pr pu ta se qu im : Nat → Int32) (su : Nat → Int64) (tc sc rc cn so : Int32) (hs : Nat → SV) (ol ct : Int32) (bt : Nat → Int32) (le : Int32) (row : Nat → Int32) (tot : Nat → Int64) (sav : Int32) (txt : Nat → Int32) (len : Int32) : Prop :=
  BR pr pu ta se qu im su tc sc rc cn so row tot 0 ∧ Val pr se tc sc rc so ∧ Hist hs ol ct row tot sav ∧ Txt bt le txt len
theorem BR.to {pr pu ta se qu im : Nat → Int32} {su : Nat → Int64} {tc sc rc cn so : Int32} {row row' : Nat → Int32} {tot tot' : Nat → Int64} {b b' : Nat} (h : BR pr pu ta se qu im su tc sc rc cn so row tot b) (hr : ∀ k, k < 118 → row' (118 * b' + k) = row (118 * b + k)) (ht : ∀ k, k < 3 → tot' (3 * b' + k) = tot (3 * b + k)) : BR pr pu ta se qu im su tc sc rc cn so row' tot' b' := by
  obtain ⟨h1, h2, h3, h4, h5, h6, h7, h8, h9, h10, h11, h12⟩ := h
  refine ⟨fun k hk => ?_, fun k hk => ?_, fun k hk => ?_, fun k hk => ?_, fun k hk => ?_, fun k hk => ?_, fun k hk => (ht k hk).trans (h7 k hk), (hr 0 (by omega)).trans h8, (hr 59 (by omega)).trans h9, (hr 68 (by omega)).trans h10, (hr 117 (by omega)).trans h11, (hr 116 (by omega)).trans h12⟩
  · have := hr (1 + k) (by omega); rw [Nat.add_assoc, this, ← Nat.add_assoc]; exact h1 k hk
  · have := hr (108 + k) (by omega); rw [Nat.add_assoc, this, ← Nat.add_assoc]; exact h2 k hk
  · have := hr (57 + k) (by omega); rw [Nat.add_assoc, this, ← Nat.add_assoc]; exact h3 k hk
  · have := hr (60 + k) (by omega); rw [Nat.add_assoc, this, ← Nat.add_assoc]; exact h4 k hk
  · have := hr (69 + k) (by omega); rw [Nat.add_assoc, this, ← Nat.add_assoc]; exact h5 k hk
  · have := hr (99 + k) (by omega); rw [Nat.add_assoc, this, ← Nat.add_assoc]; exact h6 k hk
theorem Hist.to {hs : Nat → SV} {ol ct sav : Int32} {row row' : Nat → Int32} {tot tot' : Nat → Int64} (h : Hist hs ol ct row tot sav) (hr : ∀ k, 118 ≤ k → row' k = row k) (ht : ∀ k, 3 ≤ k → tot' k = tot k) : Hist hs ol ct row' tot' sav := by
  obtain ⟨o, c, h1, h2, h3, h4, h5, h6⟩ := h
  refine ⟨o, c, h1, h2, h3, h4, h5, fun j hj => ⟨?_, (h6 j hj).2⟩⟩
  exact BR.to (h6 j hj).1 (fun k hk => hr _ (by omega)) (fun k hk => ht _ (by omega))
theorem sv0_val : Valv sv0 := ⟨0, 0, 0, rfl, by omega, rfl, by omega, rfl, by omega, fun i h => by omega, fun i j h => by omega, fun i _ hi => by
  match i, hi with
  | 0, _ => exact (by decide)
  | 1, _ => exact (by decide)
  | 2, _ => exact (by decide)
  | 3, _ => exact (by decide)
  | 4, _ => exact (by decide)
  | 5, _ => exact (by decide)
  | 6, _ => exact (by decide)
  | 7, _ => exact (by decide)⟩
theorem Inv_0 : Inv (fun _ => 0) (fun _ => 0) taF (fun _ => 0) (fun _ => 0) (fun _ => 0) (fun _ => 0) 0 0 0 0 0 (fun _ => sv0) 0 0 (fun _ => 0) 0 row0 (fun _ => 0) 0 (fun _ => 0) 0 := by
  refine ⟨⟨fun k hk => ?_, fun k hk => ?_, fun k hk => ?_, fun k hk => ?_, fun k hk => ?_, fun k hk => ?_, fun k hk => rfl, rfl, rfl, rfl, rfl, rfl⟩, sv0_val, ⟨0, 0, rfl, by omega, rfl, by omega, rfl, fun j h => by omega⟩, ⟨0, by omega, rfl, rfl, fun k hk => ⟨rfl, 0, by omega, rfl⟩⟩⟩
  · simp only [row0, upd]; rw [if_neg (by omega), if_neg (by omega)]
  · simp only [row0, upd]; rw [if_neg (by omega), if_neg (by omega)]
  · match k, hk with
    | 0, _ => rfl
    | 1, _ => rfl
  · simp only [row0, upd]; rw [if_neg (by omega), if_neg (by omega)]
  · simp only [row0, upd]; rw [if_neg (by omega), if_neg (by omega)]
  · simp only [row0, upd]; rw [if_neg (by omega), if_neg (by omega)]
/-! ranges -/
theorem in_eq (a b c : Int32) : f_X5_in a b c = f_X4_isWithin a b c := rfl
theorem wi (a b c : Int32) : (f_X4_isWithin a b c = some 0 ∧ (a < b ∨ c < a)) ∨ (f_X4_isWithin a b c = some 1 ∧ ¬ a < b ∧ ¬ c < a) := by
  unfold f_X4_isWithin
  by_cases h1 : a < b
  · rw [if_pos h1]; exact Or.inl ⟨rfl, Or.inl h1⟩
  · rw [if_neg h1]
    by_cases h2 : c < a
    · rw [if_pos h2]; exact Or.inl ⟨rfl, Or.inr h2⟩
    · rw [if_neg h2]; exact Or.inr ⟨rfl, h1, h2⟩
theorem nle {a b : Int32} (h : ¬ a < b) : b ≤ a := by rw [Int32.le_iff_toInt_le]; rw [Int32.lt_iff_toInt_lt] at h; omega
/-- from 0 to a number -/
theorem wi0 (a : Int32) (n : Nat) (hn : n < 2 ^ 31) : (f_X4_isWithin a 0 (nI n) = some 0) ∨ (f_X4_isWithin a 0 (nI n) = some 1 ∧ ∃ k, k ≤ n ∧ a = nI k) := by
  rcases wi a 0 (nI n) with h | ⟨h, h1, h2⟩
  · exact Or.inl h.1
  · exact Or.inr ⟨h, nI_of2 (nI_toInt hn) h1 (nle h2)⟩
theorem isThr_eq (row : Nat → Int32) (p0 : Int32) : f_X5_isThruster row p0 = f_X4_isThruster (row 0) p0 := rfl
theorem isThr (N : Nat) (hN : N ≤ 8) (p0 : Int32) : (f_X4_isThruster (nI N) p0 = some 0) ∨ (f_X4_isThruster (nI N) p0 = some 1 ∧ ∃ i, i < N ∧ p0 = nI i) := by
  unfold f_X4_isThruster
  rcases Nat.eq_zero_or_pos N with rfl | hp
  · rcases wi p0 0 (nI 0 - 1) with ⟨h, -⟩ | ⟨h, h1, h2⟩
    · rw [h]; exact Or.inl rfl
    · exfalso
      rw [Int32.lt_iff_toInt_lt] at h1 h2
      have e : (nI 0 - 1).toInt = -1 := by decide
      have e0 : (0 : Int32).toInt = 0 := by decide
      omega
  · have e : nI N - 1 = nI (N - 1) := by
      obtain ⟨M, rfl⟩ : ∃ M, N = M + 1 := ⟨N - 1, by omega⟩
      exact nI_pred M
    rw [e]
    rcases wi0 p0 (N - 1) (by omega) with h | ⟨h, k, hk, hk2⟩
    · rw [h]; exact Or.inl rfl
    · rw [h]; exact Or.inr ⟨rfl, k, by omega, hk2⟩
theorem isPart (p0 : Int32) : (f_X4_isPart p0 = some 0) ∨ (f_X4_isPart p0 = some 1 ∧ ∃ i, i < 3 ∧ p0 = nI i) := by
  unfold f_X4_isPart
  rcases wi0 p0 2 (by omega) with h | ⟨h, k, hk, hk2⟩
  · rw [show (2 : Int32) = nI 2 from rfl, h]; exact Or.inl rfl
  · rw [show (2 : Int32) = nI 2 from rfl, h]; exact Or.inr ⟨rfl, k, by omega, hk2⟩
theorem isPart_eq (p0 : Int32) : f_X5_isPart p0 = f_X4_isPart p0 := rfl
theorem isTank (p0 : Int32) : (f_X4_isTank p0 = some 0) ∨ (f_X4_isTank p0 = some 1 ∧ ∃ i, i < 2 ∧ p0 = nI i) := by
  unfold f_X4_isTank
  rcases wi0 p0 1 (by omega) with h | ⟨h, k, hk, hk2⟩
  · rw [show (1 : Int32) = nI 1 from rfl, h]; exact Or.inl rfl
  · rw [show (1 : Int32) = nI 1 from rfl, h]; exact Or.inr ⟨rfl, k, by omega, hk2⟩
theorem isTank_eq (p0 : Int32) : f_X5_isTank p0 = f_X4_isTank p0 := rfl
theorem isPlace (Q : Nat) (hQ : Q ≤ 10) (p0 : Int32) : (f_X4_isPlace (nI Q) p0 = some 0) ∨ (f_X4_isPlace (nI Q) p0 = some 1 ∧ ∃ i, i < Q ∧ p0 = nI i) := by
  unfold f_X4_isPlace
  rcases Nat.eq_zero_or_pos Q with rfl | hp
  · rcases wi p0 0 (nI 0 - 1) with ⟨h, -⟩ | ⟨h, h1, h2⟩
    · rw [h]; exact Or.inl rfl
    · exfalso
      rw [Int32.lt_iff_toInt_lt] at h1 h2
      have e : (nI 0 - 1).toInt = -1 := by decide
      have e0 : (0 : Int32).toInt = 0 := by decide
      omega
  · have e : nI Q - 1 = nI (Q - 1) := by
      obtain ⟨M, rfl⟩ : ∃ M, Q = M + 1 := ⟨Q - 1, by omega⟩
      exact nI_pred M
    rw [e]
    rcases wi0 p0 (Q - 1) (by omega) with h | ⟨h, k, hk, hk2⟩
    · rw [h]; exact Or.inl rfl
    · rw [h]; exact Or.inr ⟨rfl, k, by omega, hk2⟩
theorem isPlace_eq (row : Nat → Int32) (p0 : Int32) : f_X5_isPlace row p0 = f_X4_isPlace (row 68) p0 := rfl

def bd (x : Int64) (X : Nat) : Prop := x.toInt.natAbs ≤ X
def bs (x : Int32) (X : Nat) : Prop := x.toInt.natAbs ≤ X
theorem bmod64 (z : Int) (h : z.natAbs ≤ 2 ^ 60) : z.bmod (2 ^ 64) = z := by
  rw [Int.bmod_def]; split <;> omega
theorem bmod32 (z : Int) (h : z.natAbs ≤ 2 ^ 30) : z.bmod (2 ^ 32) = z := by
  rw [Int.bmod_def]; split <;> omega
theorem bd_mul {x y : Int64} {X Y : Nat} (h1 : bd x X) (h2 : bd y Y) (h : X * Y ≤ 2 ^ 60) : bd (x * y) (X * Y) := by
  have e : (x.toInt * y.toInt).natAbs ≤ X * Y := by rw [Int.natAbs_mul]; exact Nat.mul_le_mul h1 h2
  unfold bd
  rw [Int64.toInt_mul, bmod64 _ (Nat.le_trans e h)]; exact e
theorem bd_sub {x y : Int64} {X Y : Nat} (h1 : bd x X) (h2 : bd y Y) (h : X + Y ≤ 2 ^ 60) : bd (x - y) (X + Y) := by
  unfold bd at *
  rw [Int64.toInt_sub, bmod64 _ (by omega)]; omega
theorem bd_add {x y : Int64} {X Y : Nat} (h1 : bd x X) (h2 : bd y Y) (h : X + Y ≤ 2 ^ 60) : bd (x + y) (X + Y) := by
  unfold bd at *
  rw [Int64.toInt_add, bmod64 _ (by omega)]; omega
theorem bs_mul {x y : Int32} {X Y : Nat} (h1 : bs x X) (h2 : bs y Y) (h : X * Y ≤ 2 ^ 30) : bs (x * y) (X * Y) := by
  have e : (x.toInt * y.toInt).natAbs ≤ X * Y := by rw [Int.natAbs_mul]; exact Nat.mul_le_mul h1 h2
  unfold bs
  rw [Int32.toInt_mul, bmod32 _ (Nat.le_trans e h)]; exact e
theorem bs_sub {x y : Int32} {X Y : Nat} (h1 : bs x X) (h2 : bs y Y) (h : X + Y ≤ 2 ^ 30) : bs (x - y) (X + Y) := by
  unfold bs at *
  rw [Int32.toInt_sub, bmod32 _ (by omega)]; omega
theorem bs_up {x : Int32} {X : Nat} (h : bs x X) : bd x.toInt64 X := by
  unfold bd; rw [Int32.toInt_toInt64]; exact h
theorem bs_d : ∀ d, d < 4 → (dX d).toInt.natAbs ≤ 1 ∧ (dY d).toInt.natAbs ≤ 1 := by decide
theorem bs_n (n : Nat) (h : n < 2 ^ 31) : bs (nI n) n := by
  unfold bs; rw [nI_toInt h]; omega
theorem unit_bd {pr : Nat → Int32} {i : Nat} (h : PV pr i) : bd (wP pr i 0) 10 ∧ bd (wP pr i 1) 10 ∧ bd (wP pr i 2) 200 := by
  obtain ⟨h0, h1, ⟨d, hd, e2⟩, ⟨f, f1, f2, e3⟩, -⟩ := h
  have hb := bs_d d hd
  have hf : bs (pr (7 * i + 3)) 10 := by rw [e3]; exact Nat.le_trans (bs_n f (by omega)) f2
  have hx : bs (pr (7 * i)) 10 := by unfold bs; omega
  have hy : bs (pr (7 * i + 1)) 10 := by unfold bs; omega
  unfold wP unitP
  rw [e2, nI_clamp (by omega)]
  exact ⟨bs_up (bs_mul hf hb.1 (by decide)), bs_up (bs_mul hf hb.2 (by decide)), bs_up (bs_mul hf (bs_sub (bs_mul hx hb.2 (by decide)) (bs_mul hy hb.1 (by decide)) (by decide)) (by decide))⟩
theorem det_bd {A B C : Nat → Int64} (ha : bd (A 0) 10 ∧ bd (A 1) 10 ∧ bd (A 2) 200) (hb : bd (B 0) 10 ∧ bd (B 1) 10 ∧ bd (B 2) 200) (hc : bd (C 0) 10 ∧ bd (C 1) 10 ∧ bd (C 2) 200) : bd (det A B C) 120000 := by
  unfold det
  exact bd_add (bd_sub (bd_mul ha.1 (bd_sub (bd_mul hb.2.1 hc.2.2 (by decide)) (bd_mul hb.2.2 hc.2.1 (by decide)) (by decide)) (by decide)) (bd_mul ha.2.1 (bd_sub (bd_mul hb.1 hc.2.2 (by decide)) (bd_mul hb.2.2 hc.1 (by decide)) (by decide)) (by decide)) (by decide)) (bd_mul ha.2.2 (bd_sub (bd_mul hb.1 hc.2.1 (by decide)) (bd_mul hb.2.1 hc.1 (by decide)) (by decide)) (by decide)) (by decide)
theorem lg_neg (x y : Int64) : lg_cmp x y < 0 ↔ x < y := by
  unfold lg_cmp
  by_cases c : x > y
  · rw [if_pos c]
    exact ⟨fun h => absurd h (by decide), fun h => absurd (Int64.lt_trans h c) (Int64.lt_irrefl)⟩
  · rw [if_neg c]
    by_cases d : x = y
    · rw [if_pos d]; subst d
      exact ⟨fun h => absurd h (by decide), fun h => absurd h (Int64.lt_irrefl)⟩
    · rw [if_neg d]
      refine ⟨fun _ => ?_, fun _ => by decide⟩
      rw [Int64.lt_iff_toInt_lt]
      rw [gt_iff_lt, Int64.lt_iff_toInt_lt] at c
      have : x.toInt ≠ y.toInt := fun e => d (Int64.toInt_inj.mp e)
      omega
theorem lg3 (x y : Int64) : lg_cmp x y = 1 ∨ lg_cmp x y = 0 ∨ lg_cmp x y = -1 := by
  unfold lg_cmp
  split
  · exact .inl rfl
  · split
    · exact .inr (.inl rfl)
    · exact .inr (.inr rfl)
theorem lg_ge (x y : Int64) : 0 ≤ lg_cmp x y ↔ ¬ lg_cmp x y < 0 := by
  rcases lg3 x y with h | h | h <;> rw [h] <;> decide
theorem lg_le (x y : Int64) : lg_cmp x y ≤ 0 ↔ lg_cmp x y = 0 ∨ lg_cmp x y < 0 := by
  rcases lg3 x y with h | h | h <;> rw [h] <;> decide
theorem ifE {α : Type} {c : Prop} [Decidable c] {a b b' : α} (h : b = b') : (if c then a else b) = if c then a else b' := by rw [h]
theorem abs_bd {D : Int64} {X : Nat} (h : bd D X) (hX : X ≤ 2 ^ 60) (h0 : ¬ lg_cmp D 0 = 0) : 0 < (sg D D).toInt ∧ (sg D D).toInt ≤ X := by
  have n0 : D.toInt ≠ 0 := fun e => h0 ((lg_eq0 D 0).mpr (Int64.toInt_inj.mp (e.trans (by decide))))
  have z : (0 : Int64).toInt = 0 := by decide
  unfold bd at h
  unfold sg
  split
  · rename_i c
    have : ¬ D < 0 := fun e => (lg_ge D 0).mp c ((lg_neg D 0).mpr e)
    rw [Int64.lt_iff_toInt_lt, z] at this
    omega
  · rename_i c
    have : D < 0 := (lg_neg D 0).mp (Classical.byContradiction fun e => c ((lg_ge D 0).mpr e))
    rw [Int64.lt_iff_toInt_lt, z] at this
    rw [Int64.toInt_neg, bmod64 _ (by omega)]
    omega
theorem bitIf_ok (p : Int64) (i : Nat) {α : Type} (K : Int32 → Option α) : (if lg_cmp p 0 ≤ 0 then K 0 else K 1) = K (if lg_cmp p 0 ≤ 0 then 0 else 1) := by
  split <;> rfl
theorem bitIf_of (p : Int64) (i : Nat) : f_X1_bitIf (if lg_cmp p 0 ≤ 0 then 0 else 1) (nI i) = some (bitOf p i) := by
  unfold bitOf
  split <;> rfl
theorem possible_of (p a : Int64) : f_X1_isPossible p a = some (pos p a) := by
  unfold f_X1_isPossible pos
  split
  · rfl
  · split <;> rfl
theorem one_w (x : Int64) : (1 : Int32).toInt64 * x = x ∧ x * (1 : Int32).toInt64 = x ∧ (-1 : Int32).toInt64 * x = -x ∧ x * (-1 : Int32).toInt64 = -x := by
  rw [show (1 : Int32).toInt64 = 1 from by decide, show (-1 : Int32).toInt64 = -1 from by decide]
  refine ⟨by grind, by grind, by grind, by grind⟩
/-- what a set of three is worth -/
def Pc (tp : Nat → Int32) (i j k : Nat) (p0 p1 p2 : Int64) : Int64 := ((p0 * (tp i).toInt64) + (p1 * (tp j).toInt64)) + (p2 * (tp k).toInt64)
def Mk3 (i j k : Nat) (p0 p1 p2 : Int64) : Int32 := (bitOf p0 i ||| bitOf p1 j) ||| bitOf p2 k
theorem cons_ok {un : Nat → Nat → Int32} {tp : Nat → Int32} {ru : Int32} {se : Nat → Int32} {sc : Int32} {sh : Nat → Int64} {de co : Int64} {ma fo : Int32} {i j k : Nat} (hi : i < 8) (hj : j < 8) (hk : k < 8)
    {D d0 d1 d2 : Int64} (eD : f_X1_determinantOf un (nI i) (nI j) (nI k) = some D) (e0 : f_X1_determinantOf un 8 (nI j) (nI k) = some d0) (e1 : f_X1_determinantOf un (nI i) 8 (nI k) = some d1) (e2 : f_X1_determinantOf un (nI i) (nI j) 8 = some d2) :
    f_X1_consider un tp ru se sc sh de co ma fo (nI i) (nI j) (nI k) = if lg_cmp D 0 = 0 then some (sh, de, co, ma, fo) else if pos (sg D d0) (sg D D) = 0 then some (sh, de, co, ma, fo) else if pos (sg D d1) (sg D D) = 0 then some (sh, de, co, ma, fo) else if pos (sg D d2) (sg D D) = 0 then some (sh, de, co, ma, fo) else
      (f_X2_forbids se sc (Mk3 i j k (sg D d0) (sg D d1) (sg D d2) ||| ru)).bind (fun q => if q = 0 then (if fo = 0 then f_X1_consider_j239 sh de co ma fo (nI i) (nI j) (nI k) (sg D D) (sg D d0) (sg D d1) (sg D d2) (Mk3 i j k (sg D d0) (sg D d1) (sg D d2)) (Pc tp i j k (sg D d0) (sg D d1) (sg D d2)) else ((f_X1_isBetter de co ma (Pc tp i j k (sg D d0) (sg D d1) (sg D d2)) (sg D D) (Mk3 i j k (sg D d0) (sg D d1) (sg D d2))).bind (fun q34 => if q34 = 0 then some (sh, de, co, ma, fo) else f_X1_consider_j239 sh de co ma fo (nI i) (nI j) (nI k) (sg D D) (sg D d0) (sg D d1) (sg D d2) (Mk3 i j k (sg D d0) (sg D d1) (sg D d2)) (Pc tp i j k (sg D d0) (sg D d1) (sg D d2))))) else some (sh, de, co, ma, fo)) := by
  have J30 : ∀ t : Int32, (∀ x, t.toInt64 * x = sg D x ∧ x * t.toInt64 = sg D x) → f_X1_consider_j30 un tp sh de co ma ru fo se sc (nI i) (nI j) (nI k) D t = if pos (sg D d0) (sg D D) = 0 then some (sh, de, co, ma, fo) else if pos (sg D d1) (sg D D) = 0 then some (sh, de, co, ma, fo) else if pos (sg D d2) (sg D D) = 0 then some (sh, de, co, ma, fo) else
      (f_X2_forbids se sc (Mk3 i j k (sg D d0) (sg D d1) (sg D d2) ||| ru)).bind (fun q => if q = 0 then (if fo = 0 then f_X1_consider_j239 sh de co ma fo (nI i) (nI j) (nI k) (sg D D) (sg D d0) (sg D d1) (sg D d2) (Mk3 i j k (sg D d0) (sg D d1) (sg D d2)) (Pc tp i j k (sg D d0) (sg D d1) (sg D d2)) else ((f_X1_isBetter de co ma (Pc tp i j k (sg D d0) (sg D d1) (sg D d2)) (sg D D) (Mk3 i j k (sg D d0) (sg D d1) (sg D d2))).bind (fun q34 => if q34 = 0 then some (sh, de, co, ma, fo) else f_X1_consider_j239 sh de co ma fo (nI i) (nI j) (nI k) (sg D D) (sg D d0) (sg D d1) (sg D d2) (Mk3 i j k (sg D d0) (sg D d1) (sg D d2)) (Pc tp i j k (sg D d0) (sg D d1) (sg D d2))))) else some (sh, de, co, ma, fo)) := by
    intro t ht
    unfold f_X1_consider_j30
    rw [e0, Option.bind_some, e1, Option.bind_some, e2, Option.bind_some, (ht d0).1, (ht d1).1, (ht d2).1, (ht D).2, possible_of, possible_of, possible_of, Option.bind_some, Option.bind_some, Option.bind_some]
    refine ifE (ifE (ifE ?_))
    rw [bitIf_ok (sg D d0) i (fun b => f_X1_consider_j127 tp sh de co ma ru fo se sc (nI i) (nI j) (nI k) (sg D D) (sg D d0) (sg D d1) (sg D d2) b)]
    unfold f_X1_consider_j127
    rw [bitIf_of, Option.bind_some, bitIf_ok (sg D d1) j (fun b => f_X1_consider_j143 tp sh de co ma ru fo se sc (nI i) (nI j) (nI k) (sg D D) (sg D d0) (sg D d1) (sg D d2) b (bitOf (sg D d0) i))]
    unfold f_X1_consider_j143
    rw [bitIf_of, Option.bind_some, bitIf_ok (sg D d2) k (fun b => f_X1_consider_j160 tp sh de co ma ru fo se sc (nI i) (nI j) (nI k) (sg D D) (sg D d0) (sg D d1) (sg D d2) b (bitOf (sg D d0) i ||| bitOf (sg D d1) j))]
    unfold f_X1_consider_j160
    rw [bitIf_of, Option.bind_some, gd_n hi, gd_n hj, gd_n hk, nI_clamp (by omega), nI_clamp (by omega), nI_clamp (by omega)]
    rfl
  unfold f_X1_consider
  rw [eD, Option.bind_some]
  refine ifE ?_
  by_cases c : 0 ≤ lg_cmp D 0
  · rw [if_pos c]
    exact J30 1 (fun x => by unfold sg; rw [if_pos c]; exact ⟨(one_w x).1, (one_w x).2.1⟩)
  · rw [if_neg c]
    exact J30 (-1) (fun x => by unfold sg; rw [if_neg c]; exact ⟨(one_w x).2.2.1, (one_w x).2.2.2⟩)


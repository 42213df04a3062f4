theorem lg_eq0 (x y : Int64) : lg_cmp x y = 0 ↔ x = y := by
  unfold lg_cmp
  constructor
  · intro h
    by_cases c : x > y
    · rw [if_pos c] at h; exact absurd h (by decide)
    · rw [if_neg c] at h
      by_cases d : x = y
      · exact d
      · rw [if_neg d] at h; exact absurd h (by decide)
  · intro h
    subst h
    rw [if_neg (by simp), if_pos rfl]
theorem wide_eq (a b : Int32) : a.toInt64 = b.toInt64 ↔ a = b := by
  rw [← Int64.toInt_inj, ← Int32.toInt_inj, Int32.toInt_toInt64, Int32.toInt_toInt64]
theorem add_iff (d t p : Int32) : d + t = p ↔ t = p - d := by
  constructor
  · intro h; subst h; rw [Int32.add_comm]; simp
  · intro h; subst h; rw [Int32.add_comm]; simp
def tri (a b c : Int32) (j : Nat) : Int32 := if j = 0 then a else if j = 1 then b else c
def gtri (goa : Nat → Int64) (a b c : Int32) : Nat → Int64 := vp_updL (vp_updL (vp_updL goa 0 a.toInt64) 1 b.toInt64) 2 c.toInt64
theorem gtri_at (goa : Nat → Int64) (a b c : Int32) (j : Nat) (hj : j < 3) : gtri goa a b c j = (tri a b c j).toInt64 := by
  match j, hj with
  | 0, _ => rfl
  | 1, _ => rfl
  | 2, _ => rfl
theorem aims_ok (goa : Nat → Int64) (a b c : Int32) : f_X5_aims goa a b c = some (gtri goa a b c) := rfl
/-- a thruster with some ticks explains what is measured beyond the delivered -/
def Exp (pr im : Nat → Int32) (p : Nat → Int32) (i : Nat) (t : Int32) : Prop := ∀ j, j < 3 → t * unitP pr i j = p j - im (3 + j)
theorem exp_of {pr ta row im : Nat → Int32} {N i : Nat} (hC : Cur pr ta row N) (hi : i < N) (him : ∀ k, k < 9 → row (99 + k) = im k) (goa : Nat → Int64) (a b c t : Int32) :
    (Exp pr im (tri a b c) i t ∧ f_X2_isImpulse pr (nI i) t (a - im 3) (b - im 4) (c - im 5) = some 1 ∧ f_X5_explains row (gtri goa a b c) (nI i) t = some 1) ∨ (¬ Exp pr im (tri a b c) i t ∧ f_X2_isImpulse pr (nI i) t (a - im 3) (b - im 4) (c - im 5) = some 0 ∧ f_X5_explains row (gtri goa a b c) (nI i) t = some 0) := by
  obtain ⟨x0, y0⟩ := unit_of hC hi 0 (by omega)
  obtain ⟨x1, y1⟩ := unit_of hC hi 1 (by omega)
  obtain ⟨x2, y2⟩ := unit_of hC hi 2 (by omega)
  have l1 := lp_run (b := f_X5_explains_b5 row (gtri goa a b c) (nI i) t) (fun k s => s.2 = nI k ∧ ((s.1 = 1 ∧ ∀ j, j < k → t * unitP pr i j = tri a b c j - im (3 + j)) ∨ (s.1 = 0 ∧ ∃ j, j < k ∧ ¬ t * unitP pr i j = tri a b c j - im (3 + j)))) 3 (fun r => (r = 1 ∧ Exp pr im (tri a b c) i t) ∨ (r = 0 ∧ ¬ Exp pr im (tri a b c) i t)) (by
    rintro k ⟨x, y⟩ hk ⟨hy, hJ⟩
    replace hy : y = nI k := hy
    replace hJ : (x = 1 ∧ ∀ j, j < k → t * unitP pr i j = tri a b c j - im (3 + j)) ∨ (x = 0 ∧ ∃ j, j < k ∧ ¬ t * unitP pr i j = tri a b c j - im (3 + j)) := hJ
    subst hy
    unfold f_X5_explains_b5 f_X5_explains_j51 f_X5_explains_j52
    rcases Nat.lt_or_ge k 3 with hlt | hge
    · refine Or.inl ⟨hlt, ?_⟩
      show ∃ s', (if (3 : Int32) ≤ nI k then _ else if x = 0 then some (Sum.inl (0, nI k + 1)) else gd (ib (102 + nI k) 708) ((f_X5_unitOf row (nI i) (nI k)).bind (fun q7 => gd (ib (nI k) 3) (if (lg_cmp (((row ((102 : Int32) + nI k).toNatClampNeg) + (t * q7)).toInt64) (gtri goa a b c (nI k).toNatClampNeg)) = 0 then some (Sum.inl (1, nI k + 1)) else some (Sum.inl (0, nI k + 1)))))) = some (Sum.inl s') ∧ _
      rw [if_neg (show ¬ (3 : Int32) ≤ nI k from nI_ge (b := 3) hlt (by omega)), ap1]
      rcases hJ with ⟨rfl, hJ⟩ | ⟨rfl, j, hj, hn⟩
      · rw [if_neg (by decide), ix102, gd_n (by omega), (unit_of hC hi k hlt).2, Option.bind_some, gd_n hlt, nI_clamp (by omega), nI_clamp (by omega), gtri_at _ _ _ _ _ hlt, show row (102 + k) = im (3 + k) from by rw [← him _ (by omega)]; exact congrArg row (by omega)]
        by_cases e : t * unitP pr i k = tri a b c k - im (3 + k)
        · rw [if_pos ((lg_eq0 _ _).mpr ((wide_eq _ _).mpr ((add_iff _ _ _).mpr e)))]
          refine ⟨_, rfl, rfl, Or.inl ⟨rfl, fun j hj => ?_⟩⟩
          by_cases d : j = k
          · subst d; exact e
          · exact hJ j (by omega)
        · rw [if_neg (fun h => e ((add_iff _ _ _).mp ((wide_eq _ _).mp ((lg_eq0 _ _).mp h))))]
          exact ⟨_, rfl, rfl, Or.inr ⟨rfl, k, by omega, e⟩⟩
      · rw [if_pos rfl]
        exact ⟨_, rfl, rfl, Or.inr ⟨rfl, j, by omega, hn⟩⟩
    · have hk : k = 3 := by omega
      subst hk
      refine Or.inr ⟨x, ?_, ?_⟩
      · show (if (3 : Int32) ≤ nI 3 then _ else _) = _
        rw [if_pos (by decide)]
      · rcases hJ with ⟨rfl, hJ⟩ | ⟨rfl, j, hj, hn⟩
        · exact Or.inl ⟨rfl, hJ⟩
        · exact Or.inr ⟨rfl, fun h => hn (h j hj)⟩) 1000 0 (1, 0) (by omega) (by omega) ⟨rfl, Or.inl ⟨rfl, fun j hj => by omega⟩⟩
  obtain ⟨r, e1, h1⟩ := l1
  have eR : f_X5_explains row (gtri goa a b c) (nI i) t = some r := by
    unfold f_X5_explains
    rw [e1, Option.bind_some, gd_t (by rcases h1 with ⟨rfl, -⟩ | ⟨rfl, -⟩ <;> decide)]
  have eL : f_X2_isImpulse pr (nI i) t (a - im 3) (b - im 4) (c - im 5) = some (if t * unitP pr i 0 = a - im 3 then (if t * unitP pr i 1 = b - im 4 then (if t * unitP pr i 2 = c - im 5 then 1 else 0) else 0) else 0) := by
    unfold f_X2_isImpulse
    rw [show f_X2_unitPart pr (nI i) 0 = _ from x0, show f_X2_unitPart pr (nI i) 1 = _ from x1, show f_X2_unitPart pr (nI i) 2 = _ from x2]
    simp only [Option.bind_some]
    by_cases q0 : t * unitP pr i 0 = a - im 3
    · rw [if_pos q0, if_pos q0]
      by_cases q1 : t * unitP pr i 1 = b - im 4
      · rw [if_pos q1, if_pos q1]
        by_cases q2 : t * unitP pr i 2 = c - im 5
        · rw [if_pos q2, if_pos q2]
        · rw [if_neg q2, if_neg q2]
      · rw [if_neg q1, if_neg q1]
    · rw [if_neg q0, if_neg q0]
  have eX : Exp pr im (tri a b c) i t ↔ (t * unitP pr i 0 = a - im 3 ∧ t * unitP pr i 1 = b - im 4 ∧ t * unitP pr i 2 = c - im 5) := by
    constructor
    · intro h; exact ⟨h 0 (by omega), h 1 (by omega), h 2 (by omega)⟩
    · intro h j hj
      match j, hj with
      | 0, _ => exact h.1
      | 1, _ => exact h.2.1
      | 2, _ => exact h.2.2
  rcases h1 with ⟨rfl, h⟩ | ⟨rfl, h⟩
  · obtain ⟨a0, a1, a2⟩ := eX.mp h
    exact Or.inl ⟨h, by rw [eL, if_pos a0, if_pos a1, if_pos a2], eR⟩
  · refine Or.inr ⟨h, ?_, eR⟩
    rw [eL]
    by_cases q0 : t * unitP pr i 0 = a - im 3
    · rw [if_pos q0]
      by_cases q1 : t * unitP pr i 1 = b - im 4
      · rw [if_pos q1]
        by_cases q2 : t * unitP pr i 2 = c - im 5
        · exact absurd (eX.mpr ⟨q0, q1, q2⟩) h
        · rw [if_neg q2]
      · rw [if_neg q1]
    · rw [if_neg q0]
def Snd (so : Int32) (i : Nat) : Prop := ((so >>> (nI i &&& 31)) &&& 1) = 1
def cA (pr pu im : Nat → Int32) (so : Int32) (p : Nat → Int32) (i : Nat) : Prop := Snd so i ∧ ¬ pu i ≤ 0 ∧ Exp pr im p i (-(pu i))
def cB (pr pu im : Nat → Int32) (so : Int32) (p : Nat → Int32) (i : Nat) : Prop := Snd so i ∧ ¬ 20 ≤ pu i ∧ Exp pr im p i (20 - pu i)
theorem silent_of {pr ta row im : Nat → Int32} {N : Nat} (hC : Cur pr ta row N) (him : ∀ k, k < 9 → row (99 + k) = im k) (pu : Nat → Int32) (so a b c : Int32) :
    (∃ i, i < N ∧ f_X2_firstSilent pr pu (nI N) so (a - im 3) (b - im 4) (c - im 5) = some (nI i) ∧ cA pr pu im so (tri a b c) i ∧ ∀ j, j < i → ¬ cA pr pu im so (tri a b c) j) ∨ (f_X2_firstSilent pr pu (nI N) so (a - im 3) (b - im 4) (c - im 5) = some (-1) ∧ ∀ j, j < N → ¬ cA pr pu im so (tri a b c) j) := by
  have hN := hC.2.2.1
  obtain ⟨r, e1, h1⟩ := lp_run (b := f_X2_firstSilent_b3 pr pu (nI N) so (a - im 3) (b - im 4) (c - im 5)) (fun i s => s = nI i ∧ ∀ j, j < i → ¬ cA pr pu im so (tri a b c) j) N (fun r => (∃ i, i < N ∧ r = Sum.inl (nI i) ∧ cA pr pu im so (tri a b c) i ∧ ∀ j, j < i → ¬ cA pr pu im so (tri a b c) j) ∨ (r = Sum.inr () ∧ ∀ j, j < N → ¬ cA pr pu im so (tri a b c) j)) (by
    rintro i s hi ⟨rfl, hJ⟩
    unfold f_X2_firstSilent_b3 f_X2_wasSound
    rcases Nat.lt_or_ge i N with hlt | hge
    · have nx : ¬ cA pr pu im so (tri a b c) i → ∀ j, j < i + 1 → ¬ cA pr pu im so (tri a b c) j := fun h j hj => by
        by_cases d : j = i
        · subst d; exact h
        · exact hJ j (by omega)
      rw [if_neg (nI_ge hlt (by omega))]
      by_cases hs : ((so >>> (nI i &&& 31)) &&& 1) = 1
      · rw [if_pos hs]
        simp only [n10, ↓reduceIte, Option.bind_some]
        rw [gd_n (by omega), nI_clamp (by omega)]
        by_cases hp : pu i ≤ 0
        · rw [if_pos hp]; exact Or.inl ⟨hlt, _, rfl, ap1 i, nx (fun h => h.2.1 hp)⟩
        · rw [if_neg hp, gd_n (by omega)]
          rcases exp_of hC hlt him (fun _ => 0) a b c (-(pu i)) with ⟨hE, e1, -⟩ | ⟨hE, e1, -⟩
          · rw [e1]; exact Or.inr ⟨_, rfl, Or.inl ⟨i, hlt, rfl, ⟨hs, hp, hE⟩, hJ⟩⟩
          · rw [e1]; exact Or.inl ⟨hlt, _, rfl, ap1 i, nx (fun h => hE h.2.2)⟩
      · rw [if_neg hs]
        exact Or.inl ⟨hlt, _, rfl, ap1 i, nx (fun h => hs h.1)⟩
    · have hi : i = N := by omega
      subst hi
      rw [if_pos (nI_le (Nat.le_refl _) (by omega))]
      exact Or.inr ⟨_, rfl, Or.inr ⟨rfl, hJ⟩⟩) 1000 0 0 (Nat.zero_le _) (by omega) ⟨rfl, fun j hj => by omega⟩
  unfold f_X2_firstSilent
  rw [e1, Option.bind_some]
  rcases h1 with ⟨i, hi, rfl, h2, h3⟩ | ⟨rfl, h2⟩
  · exact Or.inl ⟨i, hi, rfl, h2, h3⟩
  · exact Or.inr ⟨rfl, h2⟩
theorem steady_of {pr ta row im : Nat → Int32} {N : Nat} (hC : Cur pr ta row N) (him : ∀ k, k < 9 → row (99 + k) = im k) (pu : Nat → Int32) (so a b c : Int32) :
    (∃ i, i < N ∧ f_X2_firstSteady pr pu (nI N) so (a - im 3) (b - im 4) (c - im 5) = some (nI i) ∧ cB pr pu im so (tri a b c) i ∧ ∀ j, j < i → ¬ cB pr pu im so (tri a b c) j) ∨ (f_X2_firstSteady pr pu (nI N) so (a - im 3) (b - im 4) (c - im 5) = some (-1) ∧ ∀ j, j < N → ¬ cB pr pu im so (tri a b c) j) := by
  have hN := hC.2.2.1
  obtain ⟨r, e1, h1⟩ := lp_run (b := f_X2_firstSteady_b3 pr pu (nI N) so (a - im 3) (b - im 4) (c - im 5)) (fun i s => s = nI i ∧ ∀ j, j < i → ¬ cB pr pu im so (tri a b c) j) N (fun r => (∃ i, i < N ∧ r = Sum.inl (nI i) ∧ cB pr pu im so (tri a b c) i ∧ ∀ j, j < i → ¬ cB pr pu im so (tri a b c) j) ∨ (r = Sum.inr () ∧ ∀ j, j < N → ¬ cB pr pu im so (tri a b c) j)) (by
    rintro i s hi ⟨rfl, hJ⟩
    unfold f_X2_firstSteady_b3 f_X2_wasSound
    rcases Nat.lt_or_ge i N with hlt | hge
    · have nx : ¬ cB pr pu im so (tri a b c) i → ∀ j, j < i + 1 → ¬ cB pr pu im so (tri a b c) j := fun h j hj => by
        by_cases d : j = i
        · subst d; exact h
        · exact hJ j (by omega)
      rw [if_neg (nI_ge hlt (by omega))]
      by_cases hs : ((so >>> (nI i &&& 31)) &&& 1) = 1
      · rw [if_pos hs]
        simp only [n10, ↓reduceIte, Option.bind_some]
        rw [gd_n (by omega), nI_clamp (by omega)]
        by_cases hp : 20 ≤ pu i
        · rw [if_pos hp]; exact Or.inl ⟨hlt, _, rfl, ap1 i, nx (fun h => h.2.1 hp)⟩
        · rw [if_neg hp, gd_n (by omega)]
          rcases exp_of hC hlt him (fun _ => 0) a b c (20 - pu i) with ⟨hE, e1, -⟩ | ⟨hE, e1, -⟩
          · rw [e1]; exact Or.inr ⟨_, rfl, Or.inl ⟨i, hlt, rfl, ⟨hs, hp, hE⟩, hJ⟩⟩
          · rw [e1]; exact Or.inl ⟨hlt, _, rfl, ap1 i, nx (fun h => hE h.2.2)⟩
      · rw [if_neg hs]
        exact Or.inl ⟨hlt, _, rfl, ap1 i, nx (fun h => hs h.1)⟩
    · have hi : i = N := by omega
      subst hi
      rw [if_pos (nI_le (Nat.le_refl _) (by omega))]
      exact Or.inr ⟨_, rfl, Or.inr ⟨rfl, hJ⟩⟩) 1000 0 0 (Nat.zero_le _) (by omega) ⟨rfl, fun j hj => by omega⟩
  unfold f_X2_firstSteady
  rw [e1, Option.bind_some]
  rcases h1 with ⟨i, hi, rfl, h2, h3⟩ | ⟨rfl, h2⟩
  · exact Or.inl ⟨i, hi, rfl, h2, h3⟩
  · exact Or.inr ⟨rfl, h2⟩
def cC (pr pu im : Nat → Int32) (so : Int32) (p : Nat → Int32) (k : Nat) : Prop := if k < 8 then cA pr pu im so p k else cB pr pu im so p (k - 8)
theorem rem8 (k : Nat) (h : k < 2 ^ 31) : nI k - nI k / 8 * 8 = nI (k % 8) := by
  rw [show (8 : Int32) = nI 8 from rfl, pk_rem h (by omega) (by omega)]
theorem ref_of {pr ta row im pu : Nat → Int32} {so : Int32} {N : Nat} (hC : Cur pr ta row N) (him : ∀ k, k < 9 → row (99 + k) = im k) (hpu : ∀ k, k < 8 → row (108 + k) = pu k) (hso : row 116 = so) (hb : ∀ i, N ≤ i → i < 8 → ¬ ((so >>> (nI i &&& 31)) &&& 1) = 1) (goa : Nat → Int64) (a b c : Int32) :
    (∃ k, k < 16 ∧ lp (f_X5_suspect_b106 row (gtri goa a b c)) 1000 0 = some (Sum.inl (nI k, nI (k % 8))) ∧ cC pr pu im so (tri a b c) k ∧ ∀ j, j < k → ¬ cC pr pu im so (tri a b c) j) ∨ (lp (f_X5_suspect_b106 row (gtri goa a b c)) 1000 0 = some (Sum.inr ()) ∧ ∀ j, j < 16 → ¬ cC pr pu im so (tri a b c) j) := by
  obtain ⟨r, e1, h1⟩ := lp_run (b := f_X5_suspect_b106 row (gtri goa a b c)) (fun k s => s = nI k ∧ ∀ j, j < k → ¬ cC pr pu im so (tri a b c) j) 16 (fun r => (∃ k, k < 16 ∧ r = Sum.inl (nI k, nI (k % 8)) ∧ cC pr pu im so (tri a b c) k ∧ ∀ j, j < k → ¬ cC pr pu im so (tri a b c) j) ∨ (r = Sum.inr () ∧ ∀ j, j < 16 → ¬ cC pr pu im so (tri a b c) j)) (by
    rintro k s hk ⟨rfl, hJ⟩
    rcases Nat.lt_or_ge k 16 with hlt | hge
    · have nx : ¬ cC pr pu im so (tri a b c) k → ∀ j, j < k + 1 → ¬ cC pr pu im so (tri a b c) j := fun h j hj => by
        by_cases d : j = k
        · subst d; exact h
        · exact hJ j (by omega)
      have hm : k % 8 < 8 := Nat.mod_lt _ (by omega)
      unfold f_X5_suspect_b106 f_X5_suspect_j141 f_X5_suspect_j182 f_X5_suspect_j203
      rw [if_neg (show ¬ (16 : Int32) ≤ nI k from nI_ge (b := 16) hlt (by omega)), gd_t (show ib 116 708 = true by decide), show (116 : Int32).toNatClampNeg = 116 by decide, hso, rem8 k (by omega), ix108, gd_n (by omega), nI_clamp (by omega), hpu _ hm]
      by_cases hs : ((so >>> (nI (k % 8) &&& 31)) &&& 1) = 1
      · rw [if_pos hs]
        simp only [n10, ↓reduceIte]
        have hiN : k % 8 < N := by
          rcases Nat.lt_or_ge (k % 8) N with h | h
          · exact h
          · exact absurd hs (hb _ h hm)
        by_cases h8 : k < 8
        · have n8 : ¬ (8 : Int32) ≤ nI k := nI_ge (b := 8) h8 (by omega)
          have ek : k % 8 = k := Nat.mod_eq_of_lt h8
          rw [ek] at hs hiN
          rw [if_neg n8, if_neg n8, ek]
          by_cases hp : pu k ≤ 0
          · rw [if_pos hp]; exact Or.inl ⟨hlt, _, rfl, ap1 k, nx (fun h => by unfold cC at h; rw [if_pos h8] at h; exact h.2.1 hp)⟩
          · rw [if_neg hp]
            rcases exp_of hC hiN him goa a b c (-(pu k)) with ⟨hE, -, e1⟩ | ⟨hE, -, e1⟩
            · rw [e1]; exact Or.inr ⟨_, rfl, Or.inl ⟨k, hlt, by rw [ek], by unfold cC; rw [if_pos h8]; exact ⟨hs, hp, hE⟩, hJ⟩⟩
            · rw [e1]; exact Or.inl ⟨hlt, _, rfl, ap1 k, nx (fun h => by unfold cC at h; rw [if_pos h8] at h; exact hE h.2.2)⟩
        · have n8 : (8 : Int32) ≤ nI k := nI_le (a := 8) (by omega) (by omega)
          have ek : k % 8 = k - 8 := by omega
          rw [if_pos n8, if_pos n8]
          by_cases hp : 20 ≤ pu (k % 8)
          · rw [if_pos hp]; exact Or.inl ⟨hlt, _, rfl, ap1 k, nx (fun h => by unfold cC at h; rw [if_neg h8, ← ek] at h; exact h.2.1 hp)⟩
          · rw [if_neg hp]
            rcases exp_of hC hiN him goa a b c (20 - pu (k % 8)) with ⟨hE, -, e1⟩ | ⟨hE, -, e1⟩
            · rw [e1]; exact Or.inr ⟨_, rfl, Or.inl ⟨k, hlt, rfl, by unfold cC; rw [if_neg h8, ← ek]; exact ⟨hs, hp, hE⟩, hJ⟩⟩
            · rw [e1]; exact Or.inl ⟨hlt, _, rfl, ap1 k, nx (fun h => by unfold cC at h; rw [if_neg h8, ← ek] at h; exact hE h.2.2)⟩
      · rw [if_neg hs, if_pos rfl, gd_n (by omega)]
        refine Or.inl ⟨hlt, _, rfl, ap1 k, nx (fun h => ?_)⟩
        unfold cC at h
        by_cases h8 : k < 8
        · rw [if_pos h8] at h
          have ek : k % 8 = k := Nat.mod_eq_of_lt h8
          rw [ek] at hs; exact hs h.1
        · rw [if_neg h8] at h
          have ek : k % 8 = k - 8 := by omega
          rw [ek] at hs; exact hs h.1
    · have hk : k = 16 := by omega
      subst hk
      unfold f_X5_suspect_b106
      rw [if_pos (by decide)]
      exact Or.inr ⟨_, rfl, Or.inr ⟨rfl, hJ⟩⟩) 1000 0 0 (Nat.zero_le _) (by omega) ⟨rfl, fun j hj => by omega⟩
  rcases h1 with ⟨k, hk, rfl, h2, h3⟩ | ⟨rfl, h2⟩
  · exact Or.inl ⟨k, hk, e1, h2, h3⟩
  · exact Or.inr ⟨e1, h2⟩
theorem b50_of {row im : Nat → Int32} (him : ∀ k, k < 9 → row (99 + k) = im k) (goa : Nat → Int64) (a b c : Int32) :
    (lp (f_X5_suspect_b50 row (gtri goa a b c)) 1000 (1, 0) = some 1 ∧ ∀ j, j < 3 → im (3 + j) = tri a b c j) ∨ (lp (f_X5_suspect_b50 row (gtri goa a b c)) 1000 (1, 0) = some 0 ∧ ∃ j, j < 3 ∧ ¬ im (3 + j) = tri a b c j) := by
  obtain ⟨r, e1, h1⟩ := lp_run (b := f_X5_suspect_b50 row (gtri goa a b c)) (fun k s => s.2 = nI k ∧ ((s.1 = 1 ∧ ∀ j, j < k → im (3 + j) = tri a b c j) ∨ (s.1 = 0 ∧ ∃ j, j < k ∧ ¬ im (3 + j) = tri a b c j))) 3 (fun r => (r = 1 ∧ ∀ j, j < 3 → im (3 + j) = tri a b c j) ∨ (r = 0 ∧ ∃ j, j < 3 ∧ ¬ im (3 + j) = tri a b c j)) (by
    rintro k ⟨x, y⟩ hk ⟨hy, hJ⟩
    replace hy : y = nI k := hy
    replace hJ : (x = 1 ∧ ∀ j, j < k → im (3 + j) = tri a b c j) ∨ (x = 0 ∧ ∃ j, j < k ∧ ¬ im (3 + j) = tri a b c j) := hJ
    subst hy
    unfold f_X5_suspect_b50 f_X5_suspect_j87 f_X5_suspect_j88
    rcases Nat.lt_or_ge k 3 with hlt | hge
    · refine Or.inl ⟨hlt, ?_⟩
      show ∃ s', (if (3 : Int32) ≤ nI k then _ else if x = 0 then some (Sum.inl (0, nI k + 1)) else gd (ib (102 + nI k) 708) (gd (ib (nI k) 3) (if (lg_cmp ((row ((102 : Int32) + nI k).toNatClampNeg).toInt64) (gtri goa a b c (nI k).toNatClampNeg)) = 0 then some (Sum.inl (1, nI k + 1)) else some (Sum.inl (0, nI k + 1))))) = some (Sum.inl s') ∧ _
      rw [if_neg (show ¬ (3 : Int32) ≤ nI k from nI_ge (b := 3) hlt (by omega)), ap1]
      rcases hJ with ⟨rfl, hJ⟩ | ⟨rfl, j, hj, hn⟩
      · rw [if_neg (by decide), ix102, gd_n (by omega), gd_n hlt, nI_clamp (by omega), nI_clamp (by omega), gtri_at _ _ _ _ _ hlt, show row (102 + k) = im (3 + k) from by rw [← him _ (by omega)]; exact congrArg row (by omega)]
        by_cases e : im (3 + k) = tri a b c k
        · rw [if_pos ((lg_eq0 _ _).mpr ((wide_eq _ _).mpr e))]
          refine ⟨_, rfl, rfl, Or.inl ⟨rfl, fun j hj => ?_⟩⟩
          by_cases d : j = k
          · subst d; exact e
          · exact hJ j (by omega)
        · rw [if_neg (fun h => e ((wide_eq _ _).mp ((lg_eq0 _ _).mp h)))]
          exact ⟨_, rfl, rfl, Or.inr ⟨rfl, k, by omega, e⟩⟩
      · rw [if_pos rfl]
        exact ⟨_, rfl, rfl, Or.inr ⟨rfl, j, by omega, hn⟩⟩
    · have hk : k = 3 := by omega
      subst hk
      refine Or.inr ⟨x, ?_, hJ⟩
      show (if (3 : Int32) ≤ nI 3 then _ else _) = _
      rw [if_pos (by decide)]) 1000 0 (1, 0) (by omega) (by omega) ⟨rfl, Or.inl ⟨rfl, fun j hj => by omega⟩⟩
  rcases h1 with ⟨rfl, h⟩ | ⟨rfl, h⟩
  · exact Or.inl ⟨e1, h⟩
  · exact Or.inr ⟨e1, h⟩
theorem sub0 (p d : Int32) : p - d = 0 ↔ d = p := by
  constructor
  · intro h
    have := (add_iff d 0 p).mpr h.symm
    rw [← this]; simp
  · intro h; subst h; simp
theorem eq_suspect {pr : Nat → Int32} {pu : Nat → Int32} {ta : Nat → Int32} {se : Nat → Int32} {qu : Nat → Int32} {im : Nat → Int32} {su : Nat → Int64} {tc : Int32} {sc : Int32} {rc : Int32} {cn : Int32} {so : Int32} {bt : Nat → Int32} {le : Int32} {hs : Nat → SV} {ol : Int32} {ct : Int32} {row : Nat → Int32} {tot : Nat → Int64} {goa : Nat → Int64} {txt : Nat → Int32} {sav : Int32} {len : Int32} (p0 : Int32) (p1 : Int32) (p2 : Int32) (hI : Inv pr pu ta se qu im su tc sc rc cn so hs ol ct bt le row tot sav txt len) : ∃ q4 q5, f_X4_suspect pr pu im tc cn so p0 p1 p2 = some q4 ∧ f_X5_suspect row goa p0 p1 p2 = some q5 ∧ q4 = q5.1 ∧ Inv pr pu ta se qu im su tc sc rc cn so hs ol ct bt le row tot sav txt len := by
  obtain ⟨N, rfl, e2, hC⟩ := hI.cur
  have hN := hC.2.2.1
  obtain ⟨hB, hV, hHi, hT⟩ := id hI
  obtain ⟨N', S, Q, eN, hN', eS, hS, eQ, hQ, hPV, hd, hb⟩ := id hV
  have eNN : N' = N := nI_inj (by omega) (by omega) eN.symm
  subst eNN
  have him : ∀ k, k < 9 → row (99 + k) = im k := fun k hk => b_im hB hk
  have hpu : ∀ k, k < 8 → row (108 + k) = pu k := fun k hk => b_pu hB hk
  unfold f_X4_suspect f_X5_suspect f_X5_isMeasured f_X5_suspect_j21
  rw [areAt p0 p1 p2 1000000 (-1000000) (by decide), in_eq, in_eq, in_eq]
  rcases wi p0 (-1000000) 1000000 with ⟨h1, -⟩ | ⟨h1, -⟩
  · rw [h1]; exact ⟨_, _, rfl, rfl, rfl, hI⟩
  rcases wi p1 (-1000000) 1000000 with ⟨h2, -⟩ | ⟨h2, -⟩
  · rw [h1, h2]; exact ⟨_, _, rfl, rfl, rfl, hI⟩
  rcases wi p2 (-1000000) 1000000 with ⟨h3, -⟩ | ⟨h3, -⟩
  · rw [h1, h2, h3]; exact ⟨_, _, rfl, rfl, rfl, hI⟩
  rw [h1, h2, h3]
  simp only [n10, ↓reduceIte, Option.bind_some, gd_t (show zb 1 = true by decide), gd_t (show ib 117 708 = true by decide), show (117 : Int32).toNatClampNeg = 117 by decide]
  rw [b_cn hB]
  by_cases hc : cn = 0
  · rw [if_pos hc, if_pos hc]; exact ⟨_, _, rfl, rfl, rfl, hI⟩
  rw [if_neg hc, if_neg hc, aims_ok]
  have m0 : f_X2_impulsePart im 1 0 = some (im 3) := rfl
  have m1 : f_X2_impulsePart im 1 1 = some (im 4) := rfl
  have m2 : f_X2_impulsePart im 1 2 = some (im 5) := rfl
  rw [m0, m1, m2]
  simp only [Option.bind_some]
  rcases b50_of him goa p0 p1 p2 with ⟨e50, hE⟩ | ⟨e50, j, hj, hE⟩
  · rw [e50]
    have a0 := (sub0 p0 (im 3)).mpr (hE 0 (by omega))
    have a1 := (sub0 p1 (im 4)).mpr (hE 1 (by omega))
    have a2 := (sub0 p2 (im 5)).mpr (hE 2 (by omega))
    rw [if_pos a0, if_pos a1, if_pos a2]
    exact ⟨_, _, rfl, rfl, rfl, hI⟩
  · rw [e50]
    have eL : (if p0 - im 3 = 0 then (if p1 - im 4 = 0 then (if p2 - im 5 = 0 then (some 0) else (f_X4_suspect_j83 pr pu (nI N') so (p0 - im 3) (p1 - im 4) (p2 - im 5))) else (f_X4_suspect_j83 pr pu (nI N') so (p0 - im 3) (p1 - im 4) (p2 - im 5))) else (f_X4_suspect_j83 pr pu (nI N') so (p0 - im 3) (p1 - im 4) (p2 - im 5))) = f_X4_suspect_j83 pr pu (nI N') so (p0 - im 3) (p1 - im 4) (p2 - im 5) := by
      by_cases a0 : p0 - im 3 = 0
      · rw [if_pos a0]
        by_cases a1 : p1 - im 4 = 0
        · rw [if_pos a1]
          by_cases a2 : p2 - im 5 = 0
          · exfalso
            apply hE
            match j, hj with
            | 0, _ => exact (sub0 _ _).mp a0
            | 1, _ => exact (sub0 _ _).mp a1
            | 2, _ => exact (sub0 _ _).mp a2
          · rw [if_neg a2]
        · rw [if_neg a1]
      · rw [if_neg a0]
    rw [eL]
    simp only [Option.bind_some, ↓reduceIte]
    unfold f_X4_suspect_j83 f_X5_suspect_j224
    rcases silent_of hC him pu so p0 p1 p2 with ⟨i, hi, s1, s2, s3⟩ | ⟨s1, s2⟩
    · rw [s1, Option.bind_some, if_neg (nI_pos (by omega))]
      have cc : cC pr pu im so (tri p0 p1 p2) i := by unfold cC; rw [if_pos (by omega)]; exact s2
      rcases ref_of hC him hpu (b_so hB) hb goa p0 p1 p2 with ⟨k, hk, r1, r2, r3⟩ | ⟨r1, r2⟩
      · have ek : k = i := by
          rcases Nat.lt_trichotomy k i with h | h | h
          · exfalso; unfold cC at r2; rw [if_pos (by omega)] at r2; exact s3 k h r2
          · exact h
          · exact absurd cc (r3 i h)
        subst ek
        rw [r1, Option.bind_some]
        simp only [Sum.elim_inl]
        rw [if_neg (show ¬ (8 : Int32) ≤ nI k from nI_ge (b := 8) (by omega) (by omega)), Nat.mod_eq_of_lt (by omega)]
        exact ⟨_, _, rfl, rfl, rfl, hI⟩
      · exact absurd cc (r2 i (by omega))
    · rw [s1, Option.bind_some, if_pos (by decide)]
      have nA : ∀ j, j < 8 → ¬ cA pr pu im so (tri p0 p1 p2) j := fun j hj h => by
        rcases Nat.lt_or_ge j N' with h2 | h2
        · exact s2 j h2 h
        · exact hb j h2 hj h.1
      rcases steady_of hC him pu so p0 p1 p2 with ⟨i, hi, t1, t2, t3⟩ | ⟨t1, t2⟩
      · rw [t1, Option.bind_some, if_neg (nI_pos (by omega))]
        have cc : cC pr pu im so (tri p0 p1 p2) (i + 8) := by unfold cC; rw [if_neg (by omega), Nat.add_sub_cancel]; exact t2
        rcases ref_of hC him hpu (b_so hB) hb goa p0 p1 p2 with ⟨k, hk, r1, r2, r3⟩ | ⟨r1, r2⟩
        · have ek : k = i + 8 := by
            rcases Nat.lt_trichotomy k (i + 8) with h | h | h
            · exfalso
              unfold cC at r2
              by_cases h8 : k < 8
              · rw [if_pos h8] at r2; exact nA k h8 r2
              · rw [if_neg h8] at r2; exact t3 (k - 8) (by omega) r2
            · exact h
            · exact absurd cc (r3 _ h)
          subst ek
          rw [r1, Option.bind_some]
          simp only [Sum.elim_inl]
          rw [if_pos (show (8 : Int32) ≤ nI (i + 8) from nI_le (a := 8) (by omega) (by omega)), show (i + 8) % 8 = i by omega]
          exact ⟨_, _, rfl, rfl, rfl, hI⟩
        · exact absurd cc (r2 _ (by omega))
      · rw [t1, Option.bind_some, if_pos (by decide)]
        rcases ref_of hC him hpu (b_so hB) hb goa p0 p1 p2 with ⟨k, hk, r1, r2, r3⟩ | ⟨r1, r2⟩
        · exfalso
          unfold cC at r2
          by_cases h8 : k < 8
          · rw [if_pos h8] at r2; exact nA k h8 r2
          · rw [if_neg h8] at r2
            rcases Nat.lt_or_ge (k - 8) N' with h2 | h2
            · exact t2 _ h2 r2
            · exact hb _ h2 (by omega) r2.1
        · rw [r1, Option.bind_some]
          exact ⟨_, _, rfl, rfl, rfl, hI⟩


/-! the history: what is kept comes back as it was -/
def zI (n : Nat) (f : Nat → Int32) : Prop := ∀ k, n ≤ k → f k = 0
def zL (n : Nat) (f : Nat → Int64) : Prop := ∀ k, n ≤ k → f k = 0
theorem zI.u {n : Nat} {f : Nat → Int32} (h : zI n f) {j : Nat} (hj : j < n) (x : Int32) : zI n (upd f j x) := fun k hk => by
  rw [uu (by omega)]; exact h k hk
theorem zL.u {n : Nat} {f : Nat → Int64} (h : zL n f) {j : Nat} (hj : j < n) (x : Int64) : zL n (vp_updL f j x) := fun k hk => by
  rw [uLn (by omega)]; exact h k hk
theorem cpy_I {n : Nat} {f g : Nat → Int32} (hf : zI n f) (hg : zI n g) : va_cpy f g 0 0 n = f := by
  funext k
  rcases Nat.lt_or_ge k n with h | h
  · exact cpy0 h
  · rw [pk_cpy_out (Or.inr (by omega)), hg k h, hf k h]
theorem cpy_L {n : Nat} {f g : Nat → Int64} (hf : zL n f) (hg : zL n g) : va_cpy f g 0 0 n = f := by
  funext k
  rcases Nat.lt_or_ge k n with h | h
  · exact cpy0 h
  · rw [pk_cpy_out (Or.inr (by omega)), hg k h, hf k h]
def Zs (u : SV) : Prop := zI 56 u.1 ∧ zI 8 u.2.1 ∧ zI 2 u.2.2.1 ∧ zI 8 u.2.2.2.1 ∧ zI 30 u.2.2.2.2.1 ∧ zI 9 u.2.2.2.2.2.1 ∧ zL 3 u.2.2.2.2.2.2.1
theorem copy_ok {opr opu ota ose oqu oim : Nat → Int32} {osu : Nat → Int64} {otc osc orc ocn oso : Int32} {pr pu ta se qu im : Nat → Int32} {su : Nat → Int64} {tc sc rc cn so : Int32}
    (ho : Zs (opr, opu, ota, ose, oqu, oim, osu, otc, osc, orc, ocn, oso)) (h : Zs (pr, pu, ta, se, qu, im, su, tc, sc, rc, cn, so)) :
    f_X2_copyFrom opr opu ota ose oqu oim osu otc osc orc ocn oso pr pu ta se qu im su tc sc rc cn so = some (opr, opu, ota, ose, oqu, oim, osu, otc, osc, orc, ocn, oso) := by
  obtain ⟨a1, a2, a3, a4, a5, a6, a7⟩ := ho
  obtain ⟨b1, b2, b3, b4, b5, b6, b7⟩ := h
  have e : f_X2_copyFrom opr opu ota ose oqu oim osu otc osc orc ocn oso pr pu ta se qu im su tc sc rc cn so = some (va_cpy opr pr 0 0 56, va_cpy opu pu 0 0 8, va_cpy ota ta 0 0 2, va_cpy ose se 0 0 8, va_cpy oqu qu 0 0 30, va_cpy oim im 0 0 9, va_cpy osu su 0 0 3, otc, osc, orc, ocn, oso) := rfl
  rw [e, cpy_I a1 b1, cpy_I a2 b2, cpy_I a3 b3, cpy_I a4 b4, cpy_I a5 b5, cpy_I a6 b6, cpy_L a7 b7]
def Hi (hs : Nat → SV) (ol ct : Int32) : Prop := ∃ o c : Nat, ol = nI o ∧ o < 5 ∧ ct = nI c ∧ c ≤ 5 ∧ ∀ k, Zs (hs k)
/-- the latest kept state -/
def Top (u : SV) (hs : Nat → SV) (ol ct : Int32) : Prop := ∃ o c : Nat, ol = nI o ∧ o < 5 ∧ ct = nI (c + 1) ∧ c < 5 ∧ hs ((o + c) % 5) = u ∧ ∀ k, Zs (hs k)
theorem Top.hi {u : SV} {hs : Nat → SV} {ol ct : Int32} (h : Top u hs ol ct) : Hi hs ol ct := by
  obtain ⟨o, c, h1, h2, h3, h4, -, h5⟩ := h
  exact ⟨o, c + 1, h1, h2, h3, by omega, h5⟩
theorem updH_at {hs : Nat → SV} {k : Nat} {u : SV} : updH hs k u k = u := if_pos rfl
theorem updH_Z {hs : Nat → SV} {k : Nat} {u : SV} (h : ∀ j, Zs (hs j)) (hu : Zs u) : ∀ j, Zs (updH hs k u j) := by
  intro j
  unfold updH
  split
  · exact hu
  · exact h j
theorem keep_ok {pr pu ta se qu im : Nat → Int32} {su : Nat → Int64} {tc sc rc cn so : Int32} {hs : Nat → SV} {ol ct : Int32} (hH : Hi hs ol ct) (hZ : Zs (pr, pu, ta, se, qu, im, su, tc, sc, rc, cn, so)) :
    ∃ hs' ol' ct', f_X0_keep pr pu ta se qu im su tc sc rc cn so hs ol ct = some (hs', ol', ct') ∧ Top (pr, pu, ta, se, qu, im, su, tc, sc, rc, cn, so) hs' ol' ct' := by
  obtain ⟨o, c, rfl, h2, rfl, h4, h5⟩ := hH
  have hm : (o + c) % 5 < 5 := Nat.mod_lt _ (by decide)
  unfold f_X0_keep
  rw [rem5 o c (by omega), gd_n hm, nI_clamp (by omega)]
  have hc := copy_ok (ho := hZ) (h := (show Zs ((hs ((o + c) % 5)).1, (hs ((o + c) % 5)).2.1, (hs ((o + c) % 5)).2.2.1, (hs ((o + c) % 5)).2.2.2.1, (hs ((o + c) % 5)).2.2.2.2.1, (hs ((o + c) % 5)).2.2.2.2.2.1, (hs ((o + c) % 5)).2.2.2.2.2.2.1, (hs ((o + c) % 5)).2.2.2.2.2.2.2.1, (hs ((o + c) % 5)).2.2.2.2.2.2.2.2.1, (hs ((o + c) % 5)).2.2.2.2.2.2.2.2.2.1, (hs ((o + c) % 5)).2.2.2.2.2.2.2.2.2.2.1, (hs ((o + c) % 5)).2.2.2.2.2.2.2.2.2.2.2) from h5 _))
  rw [hc, Option.bind_some]
  rcases Nat.lt_or_ge c 5 with h | h
  · rw [if_neg (show ¬ (5 : Int32) ≤ nI c from nI_ge (b := 5) h (by omega))]
    exact ⟨_, _, _, rfl, o, c, rfl, h2, nI_1 c, h, updH_at, updH_Z h5 hZ⟩
  · have hc5 : c = 5 := by omega
    subst hc5
    rw [if_pos (show (5 : Int32) ≤ nI 5 by decide)]
    refine ⟨_, _, _, rfl, (o + 1) % 5, 4, ?_, Nat.mod_lt _ (by decide), rfl, by omega, ?_, updH_Z h5 hZ⟩
    · rw [show (1 : Int32) = nI 1 from rfl]; exact rem5 o 1 (by omega)
    · rw [show ((o + 1) % 5 + 4) % 5 = (o + 5) % 5 by omega]; exact updH_at
theorem undo_ok {pr pu ta se qu im : Nat → Int32} {su : Nat → Int64} {tc sc rc cn so : Int32} {hs : Nat → SV} {ol ct : Int32} {pr' pu' ta' se' qu' im' : Nat → Int32} {su' : Nat → Int64} {tc' sc' rc' cn' so' : Int32}
    (hT : Top (pr, pu, ta, se, qu, im, su, tc, sc, rc, cn, so) hs ol ct) (hZ : Zs (pr', pu', ta', se', qu', im', su', tc', sc', rc', cn', so')) :
    ∃ r, f_X4_undo hs ol pr' pu' ta' se' qu' im' su' tc' sc' rc' cn' so' ct = some (r, pr, pu, ta, se, qu, im, su, tc, sc, rc, cn, so, r) ∧ ¬ r < 0 ∧ Hi hs ol r := by
  obtain ⟨o, c, rfl, h2, rfl, h4, h5, h6⟩ := hT
  have hm : (o + c) % 5 < 5 := Nat.mod_lt _ (by decide)
  refine ⟨nI c, ?_, nI_pos (by omega), o, c, rfl, h2, rfl, by omega, h6⟩
  unfold f_X4_undo
  rw [if_neg (show ¬ nI (c + 1) = 0 from fun h => by have := nI_inj (b := 0) (by omega) (by omega) h; omega)]
  unfold f_X0_restore
  rw [if_neg (show ¬ nI (c + 1) ≤ 0 from nI_ge (a := 0) (by omega) (by omega)), nI_pred, rem5 o c (by omega), gd_n hm, nI_clamp (by omega)]
  have hz6 := h6 ((o + c) % 5)
  rw [h5] at hz6 ⊢
  rw [copy_ok hz6 hZ]
  rfl

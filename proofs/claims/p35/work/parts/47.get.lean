/-! what the public methods answer -/
theorem wth1 {a b c : Int32} (h1 : b.toInt ≤ a.toInt) (h2 : a.toInt ≤ c.toInt) : f_X4_isWithin a b c = some 1 := by
  unfold f_X4_isWithin
  rw [if_neg (by rw [Int32.lt_iff_toInt_lt]; omega), if_neg (by rw [Int32.lt_iff_toInt_lt]; omega)]
theorem wth_n {k n : Nat} (h : k ≤ n) (hn : n < 2 ^ 31) : f_X4_isWithin (nI k) 0 (nI n) = some 1 :=
  wth1 (by rw [nI_toInt (by omega), show (0 : Int32).toInt = 0 from by decide]; omega) (by rw [nI_toInt (by omega), nI_toInt hn]; omega)
theorem atMost {a n : Int32} (h1 : (-n).toInt ≤ a.toInt) (h2 : a.toInt ≤ n.toInt) : f_X4_isAtMost a n = some 1 := by
  unfold f_X4_isAtMost
  rw [wth1 h1 h2]; rfl
theorem areAt1 {a b c n : Int32} (ha : (-n).toInt ≤ a.toInt ∧ a.toInt ≤ n.toInt) (hb : (-n).toInt ≤ b.toInt ∧ b.toInt ≤ n.toInt) (hc : (-n).toInt ≤ c.toInt ∧ c.toInt ≤ n.toInt) : f_X4_areAtMost a b c n = some 1 := by
  unfold f_X4_areAtMost
  rw [atMost ha.1 ha.2, atMost hb.1 hb.2, atMost hc.1 hc.2]; rfl
theorem isTar1 {a b c : Int32} (ha : a.toInt.natAbs ≤ 40000) (hb : b.toInt.natAbs ≤ 40000) (hc : c.toInt.natAbs ≤ 40000) : f_X4_isTarget a b c = some 1 := by
  have e1 : (-(40000 : Int32)).toInt = -40000 := by decide
  have e2 : (40000 : Int32).toInt = 40000 := by decide
  unfold f_X4_isTarget
  rw [areAt1 (by rw [e1, e2]; omega) (by rw [e1, e2]; omega) (by rw [e1, e2]; omega)]; rfl
theorem thr1 {N i : Nat} (hN : N ≤ 8) (hi : i < N) : f_X4_isThruster (nI N) (nI i) = some 1 := by
  unfold f_X4_isThruster
  rw [am1 N (by omega), wth_n (by omega) (by omega)]; rfl
theorem part1 {k : Nat} (hk : k < 3) : f_X4_isPart (nI k) = some 1 := by
  unfold f_X4_isPart
  rw [show (2 : Int32) = nI 2 from rfl, wth_n (by omega) (by omega)]; rfl
theorem tank1 {k : Nat} (hk : k < 2) : f_X4_isTank (nI k) = some 1 := by
  unfold f_X4_isTank
  rw [show (1 : Int32) = nI 1 from rfl, wth_n (by omega) (by omega)]; rfl
theorem place1 {Q i : Nat} (hQ : Q ≤ 10) (hi : i < Q) : f_X4_isPlace (nI Q) (nI i) = some 1 := by
  unfold f_X4_isPlace
  rw [am1 Q (by omega), wth_n (by omega) (by omega)]; rfl
section GT
variable {pr ta : Nat → Int32} {N i : Nat}
theorem thruster_p (hC : Cu pr N) (hi : i < N) (w : Nat) (hw : w < 7) : f_X4_thruster pr ta (nI N) (nI i) (nI w) = some (pr (7 * i + w)) := by
  unfold f_X4_thruster
  rw [thr1 hC.1 hi, Option.bind_some, if_neg (by decide), show (8 : Int32) = nI 8 from rfl, wth_n (by omega) (by omega), Option.bind_some, if_neg (by decide), if_neg (show ¬ nI w = 7 from fun e => by have := nI_inj (b := 7) (by omega) (by omega) e; omega), if_neg (show ¬ nI w = nI 8 from fun e => by have := nI_inj (b := 8) (by omega) (by omega) e; omega), prop_of hC hi w hw]
  rfl
theorem thruster_u (hC : Cu pr N) (hi : i < N) : f_X4_thruster pr ta (nI N) (nI i) 7 = some (usb pr ta i) := by
  unfold f_X4_thruster
  rw [thr1 hC.1 hi, Option.bind_some, if_neg (by decide), show f_X4_isWithin 7 0 8 = some 1 from by decide, Option.bind_some, if_neg (by decide), if_pos rfl, usable_of hC hi, Option.bind_some]
  rcases usb01 pr ta i with h | h
  · rw [h]; rfl
  · rw [h]; rfl
theorem thruster_r (hC : Cu pr N) (hi : i < N) : f_X4_thruster pr ta (nI N) (nI i) 8 = some (rng pr ta i) := by
  unfold f_X4_thruster
  rw [thr1 hC.1 hi, Option.bind_some, if_neg (by decide), show f_X4_isWithin 8 0 8 = some 1 from by decide, Option.bind_some, if_neg (by decide), if_neg (by decide), if_pos rfl, running_of hC hi, Option.bind_some]
  rcases rng01 pr ta i with h | h
  · rw [h]; rfl
  · rw [h]; rfl
theorem unit_g (hC : Cu pr N) (hi : i < N) {k : Nat} (hk : k < 3) : f_X4_unit pr (nI N) (nI i) (nI k) = some (unitP pr i k) := by
  unfold f_X4_unit
  rw [thr1 hC.1 hi, Option.bind_some, if_neg (by decide), part1 hk, Option.bind_some, if_neg (by decide), unit_of hC hi k hk]
  rfl
theorem fired_g {pu : Nat → Int32} (hN : N ≤ 8) (hi : i < N) : f_X4_fired pu (nI N) (nI i) = some (pu i) := by
  unfold f_X4_fired
  rw [thr1 hN hi, Option.bind_some, if_neg (by decide), gd_n (by omega), nI_clamp (by omega)]
theorem fuel_g {k : Nat} (hk : k < 2) : f_X4_fuel ta (nI k) = some (ta k) := by
  unfold f_X4_fuel
  rw [tank1 hk, Option.bind_some, if_neg (by decide), gd_n hk, nI_clamp (by omega)]
theorem impulse_g {im : Nat → Int32} {w v : Nat} (hw : w < 3) (hv : v < 3) : f_X4_impulse im (nI w) (nI v) = some (im (3 * w + v)) := by
  unfold f_X4_impulse
  rw [part1 hv, Option.bind_some, if_neg (by decide), show (2 : Int32) = nI 2 from rfl, wth_n (by omega) (by omega), Option.bind_some, if_neg (by decide), part_of im w v (by omega)]
  rfl
theorem requested_g {qu : Nat → Int32} {Q v : Nat} (hQ : Q ≤ 10) (h0 : 0 < Q) (hv : v < 3) : f_X4_requested qu (nI Q) (nI 0) (nI v) = some (qu v) := by
  unfold f_X4_requested
  rw [place1 hQ h0, Option.bind_some, if_neg (by decide), part1 hv, Option.bind_some, if_neg (by decide), ix3, Nat.mul_zero, Nat.zero_add, gd_n (by omega), nI_clamp (by omega)]
theorem total_g {su : Nat → Int64} {k : Nat} (hk : k < 3) : f_X4_total su (nI k) = some (su k) := by
  unfold f_X4_total
  rw [part1 hk, Option.bind_some, if_neg (by decide), gd_n hk, nI_clamp (by omega)]
end GT
/-! the selection's public methods -/
section SG
variable {pr ta se : Nat → Int32} {N S : Nat} {p1 p2 p3 : Int32} {c : CS5}
def FindAll (pr ta se : Nat → Int32) (N S : Nat) (p1 p2 p3 : Int32) (c : CS5) : Prop := ∀ un tp sh de co ma ru fo, zL 8 sh → ∃ un' tp' ru', f_X1_find pr ta se (nI N) (nI S) un tp sh de co ma ru fo p1 p2 p3 = some (un', tp', c.1, c.2.1, c.2.2.1, c.2.2.2.1, ru', c.2.2.2.2)
theorem select_g (hf : FindAll pr ta se N S p1 p2 p3 c) (ht : f_X4_isTarget p1 p2 p3 = some 1) (un : Nat → Nat → Int32) (tp : Nat → Int32) (sh : Nat → Int64) (de co : Int64) (ma ru fo : Int32) (hs : zL 8 sh) :
    ∃ un' tp' ru', f_X4_select pr ta se (nI N) (nI S) un tp sh de co ma ru fo p1 p2 p3 = some (if c.2.2.2.2 = 0 then -2000000000 else c.2.2.2.1, un', tp', c.1, c.2.1, c.2.2.1, c.2.2.2.1, ru', c.2.2.2.2) := by
  obtain ⟨un', tp', ru', e⟩ := hf un tp sh de co ma ru fo hs
  refine ⟨un', tp', ru', ?_⟩
  unfold f_X4_select
  rw [ht, Option.bind_some, if_neg (by decide), e, Option.bind_some]
  by_cases h : c.2.2.2.2 = 0
  · rw [if_pos h, if_pos h]
  · rw [if_neg h, if_neg h]
theorem price_g {v : Int32} (hf : FindAll pr ta se N S p1 p2 p3 c) (ht : f_X4_isTarget p1 p2 p3 = some 1) (hv : f_X1_thousandths c.2.1 c.2.2.1 = some v) (un : Nat → Nat → Int32) (tp : Nat → Int32) (sh : Nat → Int64) (de co : Int64) (ma ru fo : Int32) (hs : zL 8 sh) :
    ∃ un' tp' ru', f_X4_price pr ta se (nI N) (nI S) un tp sh de co ma ru fo p1 p2 p3 = some (if c.2.2.2.2 = 0 then -2000000000 else v, un', tp', c.1, c.2.1, c.2.2.1, c.2.2.2.1, ru', c.2.2.2.2) := by
  obtain ⟨un', tp', ru', e⟩ := hf un tp sh de co ma ru fo hs
  refine ⟨un', tp', ru', ?_⟩
  unfold f_X4_price
  rw [ht, Option.bind_some, if_neg (by decide), e, Option.bind_some]
  dsimp only
  by_cases h : c.2.2.2.2 = 0
  · rw [if_pos h, if_pos h]
  · rw [if_neg h, if_neg h, hv]; rfl
theorem pulse_g {i : Nat} (hC : Cu pr N) (hi : i < N) (hSh : Shr pr ta N c.1 c.2.1) (hf : FindAll pr ta se N S p1 p2 p3 c) (ht : f_X4_isTarget p1 p2 p3 = some 1) (un : Nat → Nat → Int32) (tp : Nat → Int32) (sh : Nat → Int64) (de co : Int64) (ma ru fo : Int32) (hs : zL 8 sh) :
    ∃ un' tp' ru', f_X4_pulse pr ta se (nI N) (nI S) un tp sh de co ma ru fo p1 p2 p3 (nI i) = some (if c.2.2.2.2 = 0 then -2000000000 else pul c.1 c.2.1 pr i, un', tp', c.1, c.2.1, c.2.2.1, c.2.2.2.1, ru', c.2.2.2.2) := by
  obtain ⟨un', tp', ru', e⟩ := hf un tp sh de co ma ru fo hs
  refine ⟨un', tp', ru', ?_⟩
  unfold f_X4_pulse
  rw [thr1 hC.1 hi, Option.bind_some, if_neg (by decide), ht, Option.bind_some, if_neg (by decide), e, Option.bind_some]
  dsimp only
  by_cases h : c.2.2.2.2 = 0
  · rw [if_pos h, if_pos h]
  · rw [if_neg h, if_neg h, show (5 : Int32) = nI 5 from rfl, prop_of hC hi 5 (by omega), Option.bind_some, (pul_of hC hi hSh).1]; rfl
theorem thou_of {de co : Int64} (hd : 0 < de.toInt ∧ de.toInt ≤ 120000) (hc : 0 ≤ co.toInt ∧ co.toInt ≤ 1200 * de.toInt) : ∃ v, f_X1_thousandths de co = some (nI v) ∧ v ≤ 1200000 := by
  have z : (0 : Int64).toInt = 0 := by decide
  have hnz : nzl de = true := by
    unfold nzl
    refine decide_eq_true (fun e => ?_)
    have := congrArg Int64.toInt e
    rw [z] at this
    omega
  unfold f_X1_thousandths
  rw [if_neg (fun h => by have := (lg_le0 de).mp h; omega), gd_t hnz]
  have e1 : (1000 * co : Int64).toInt = 1000 * co.toInt := by rw [Int64.toInt_mul, show (1000 : Int64).toInt = 1000 from by decide, bmod64 _ (by omega)]
  have h1 : 0 ≤ (1000 * co.toInt) / de.toInt := Int.ediv_nonneg (by omega) (by omega)
  have h2 : (1000 * co.toInt) / de.toInt < 1200001 := Int.ediv_lt_of_lt_mul (by omega) (by omega)
  have e3 : (1000 * co / de : Int64).toInt = (1000 * co.toInt) / de.toInt := by
    rw [Int64.toInt_div, e1, Int.tdiv_eq_ediv_of_nonneg (by omega), bmod64 _ (by omega)]
  refine ⟨((1000 * co.toInt) / de.toInt).toNat, congrArg some (Int32.toInt_inj.mp ?_), by omega⟩
  rw [Int64.toInt_toInt32, e3, bmod32 _ (by omega), nI_toInt (by omega)]
  omega
end SG
/-! the law's small ones -/
theorem low_of (v : Int32) {n : Nat} (h0 : 0 < n) (hn : n < 2 ^ 31) : ∃ k, k < n ∧ f_L_low v (nI n) = some (nI k) := by
  obtain ⟨j, hj, ej⟩ := pk_andE v (m := 2147483647) 31 (by decide)
  refine ⟨j % n, Nat.mod_lt _ h0, ?_⟩
  unfold f_L_low
  rw [gd_t (show nz (nI n) = true from decide_eq_true (fun e => by have := nI_inj (b := 0) hn (by omega) e; omega)), ej, pk_rem hj h0 hn]
def mkB (N : Nat) (m : Int32) : Bool := (f_L_bits m).isSome && decide (¬ 3 < (f_L_bits m).getD 0) && decide (m >>> (nI N &&& 31) = 0) && decide (f_X4_isWithin m 0 255 = some 1) && decide (¬ m = -2000000000)
set_option maxRecDepth 100000 in
theorem mk_facts : ∀ N, N < 9 → ∀ k, k < N → ∀ j, j < k → ∀ i, i < j → ([true, false].all fun a => [true, false].all fun b => [true, false].all fun c => mkB N ((bb a i ||| bb b j) ||| bb c k)) = true := by decide +kernel
theorem mk_of {N : Nat} {ma : Int32} (hN : N ≤ 8) (h : MkOK N ma) : (∃ q, f_L_bits ma = some q ∧ ¬ 3 < q) ∧ (ma >>> (nI N &&& 31)) = 0 ∧ f_X4_isWithin ma 0 255 = some 1 ∧ ¬ ma = -2000000000 := by
  obtain ⟨i, j, k, hij, hjk, hk, a, b, c, rfl⟩ := h
  have h := mk_facts N (by omega) k hk j hjk i hij
  have h2 : mkB N ((bb a i ||| bb b j) ||| bb c k) = true := by
    simp only [List.all_cons, List.all_nil, Bool.and_true, Bool.and_eq_true] at h
    cases a <;> cases b <;> cases c <;> simp_all
  unfold mkB at h2
  simp only [Bool.and_eq_true, decide_eq_true_eq] at h2
  obtain ⟨⟨⟨⟨h1, h2⟩, h3⟩, h4⟩, h5⟩ := h2
  obtain ⟨q, hq⟩ := Option.isSome_iff_exists.mp h1
  rw [hq] at h2
  exact ⟨⟨q, hq, h2⟩, h3, h4, h5⟩
theorem bits_0 : f_L_bits 0 = some 0 := by decide +kernel

/-! X5_refuel -/
def f_X5_refuel (row : Nat → Int32) (tot : Nat → Int64) (sav : Int32) (p0 : Int32) (p1 : Int32) : Option (Int32 × (Nat → Int32) × (Nat → Int64) × Int32) :=
  (f_X5_isTank p0).bind (fun q1 => if q1 = 0 then (some ((-2000000001), row, tot, sav)) else ((f_X5_in p1 0 100000).bind (fun q3 => if q3 = 0 then (some ((-2000000002), row, tot, sav)) else ((f_X5_saves row tot sav).bind (fun q5 => gd (ib (57 + p0) 708) (gd (ib (57 + p0) 708) (some ((q5.1 (57 + p0).toNatClampNeg), (upd q5.1 (57 + p0).toNatClampNeg p1), q5.2.1, q5.2.2))))))))

set_option maxHeartbeats 4000000 in
set_option maxRecDepth 100000 in
theorem c_X5_refuel (l : Launch) (G : va_G) (cI cJ cZ cO cA : ClassId) (e : Nat × Nat) (aM : Nat → Nat) (sz : Nat) (row : Nat → Int32) (tot : Nat → Int64) (tab : Nat → Int64) (goa : Nat → Int64) (bes : Nat → Int64) (tic : Nat → Int64) (txt : Nat → Int32) (par : Nat → Int32) (sav : Int32) (bwh : Int64) (bpr : Int64) (bse : Int32) (len : Int32) (mat : Int32) (ask : Int32) (hh : Int64) (p0 : Int32) (p1 : Int32) {res : Int32 × (Nat → Int32) × (Nat → Int64) × Int32} (hf : f_X5_refuel row tot sav p0 p1 = some res) : MetI l yX5_refuel cX5_refuel 4 .int ({ frames := 2, cells := 0, slots := 0, locals := 44 } : Room) [.ref (aM 0), .int p0, .int p1] G (ty5 cI cJ cZ cO cA) e (wM cI cJ aM row tot tab goa bes tic txt par sav bwh bpr bse len mat ask hh ++ ([] : va_W)) (wM cI cJ aM res.2.1 res.2.2.1 tab goa bes tic txt par res.2.2.2 bwh bpr bse len mat ask hh ++ ([] : va_W)) sz res.1 := by
  refine g_body (QQ := fun A => (qI G (ty5 cI cJ cZ cO cA) A (wM cI cJ aM res.2.1 res.2.2.1 tab goa bes tic txt par res.2.2.2 bwh bpr bse len mat ask hh ++ ([] : va_W)) res.1)) (own := RX5) (by decide) rfl (Nat.le_of_ble_eq_true rfl) ?_
  intro p ev s m below meth c A ls hx hb hr hml hown hts hlk hA hP hD hS hK hE hl
  have hl : lv_has ls 4 [(0, .ref (aM 0)), (1, .int p0), (2, .int p1)] := hl
  show W p l ev ({ frames := 2, cells := 0, slots := 0, locals := 44 } : Room) s m ([.ref (aM 0), .int p0, .int p1] : List Value).toArray below meth c s.heap [] 0 0 (MQ below (qI G (ty5 cI cJ cZ cO cA) A (wM cI cJ aM res.2.1 res.2.2.1 tab goa bes tic txt par res.2.2.2 bwh bpr bse len mat ask hh ++ ([] : va_W)) res.1) ([.ref (aM 0), .int p0, .int p1] : List Value).toArray s 0 0 A) (F0 m 0 ls [])
  have h := hf
  unfold f_X5_refuel at h
  refine lv_iload_n hx hb dX5_refuel_0 rfl (lv_at hl 1 rfl) ?_
  obtain ⟨q1, hq1, h⟩ := bd_s h
  refine kSi (n := 1) (As := [.int p0]) (rest := []) hx hb hml hown hts (c_X5_isTank l G cI cJ cZ cO cA e _ p0 hq1) (tb_S kw632 kw633 kw7 kw634) rfl rfl (by decide +kernel) ⟨Nat.le_of_ble_eq_true rfl, Nat.le_of_ble_eq_true rfl⟩ hK hP hD hS hA hE rfl rfl hl.1 (Nat.le_of_ble_eq_true rfl) ⟨Nat.zero_le _, Nat.zero_le _⟩ dX5_refuel_1 (fun H locs hP hD hS => ?_)
  refine lv_if_ne (tgt := 10) hx hb dX5_refuel_4 (by decide) (fun c2 => ?_) (fun c2 => ?_)
  · replace h := (if_neg c2).symm.trans h
    refine lv_iload_n hx hb dX5_refuel_10 rfl (lv_at hl 2 rfl) ?_
    refine lv_iconst (v := 0) hx hb dX5_refuel_11 (by decide) ?_
    refine lv_ldc (v := 100000) hx hb hown (hts _ kw578) dX5_refuel_12 ?_
    obtain ⟨q3, hq3, h⟩ := bd_s h
    refine kSi (n := 3) (As := [.int p1, .int 0, .int 100000]) (rest := []) hx hb hml hown hts (c_X5_in l G cI cJ cZ cO cA e _ p1 0 100000 hq3) (tb_S kw635 kw636 kw7 kw637) rfl rfl (by decide +kernel) ⟨Nat.le_of_ble_eq_true rfl, Nat.le_of_ble_eq_true rfl⟩ hK hP hD hS hA hE rfl rfl hl.1 (Nat.le_of_ble_eq_true rfl) ⟨Nat.zero_le _, Nat.zero_le _⟩ dX5_refuel_14 (fun H locs hP hD hS => ?_)
    refine lv_if_ne (tgt := 23) hx hb dX5_refuel_17 (by decide) (fun c4 => ?_) (fun c4 => ?_)
    · replace h := (if_neg c4).symm.trans h
      refine lv_aload_n hx hb dX5_refuel_23 rfl (lv_at hl 0 rfl) ?_
      obtain ⟨q5, hq5, h⟩ := bd_s h
      refine kVv (n := 0) (C := RX5) (ws' := wM cI cJ aM q5.1 q5.2.1 tab goa bes tic txt par q5.2.2 bwh bpr bse len mat ask hh ++ ([] : va_W)) (As := []) (rest := []) hx hb hml hown hts (c_X5_saves l G cI cJ cZ cO cA e aM _ row tot tab goa bes tic txt par sav bwh bpr bse len mat ask hh hq5) (tb_V kw641 kw643 kv14 kw7 kw644) rfl rfl (by decide +kernel) ⟨Nat.le_of_ble_eq_true rfl, Nat.le_of_ble_eq_true rfl⟩ hK hP hD hS hA hE 0 rfl rfl [0, 1, 2, 3, 4, 5, 6, 7, 8] [] rfl rfl rfl 9 ⟨rfl, rfl⟩ (by decide +kernel) (by decide +kernel) rfl rfl hl.1 (Nat.le_of_ble_eq_true rfl) ⟨Nat.zero_le _, Nat.zero_le _⟩ dX5_refuel_24 (fun H locs hP hD hS => ?_)
      refine lv_aload_n hx hb dX5_refuel_27 rfl (lv_at hl 0 rfl) ?_
      refine va_get (D := G) (ci := 5) (v := .ref (aM 1)) (C := RX5) (T := TX5) (N := 16) hx hb hts uX5 hown hK hP 0 rfl rfl 0 (by decide) (hts _ kw579) (fun _ h9 => h9) rfl dX5_refuel_28 ?_
      refine lv_bipush (v := 57) hx hb dX5_refuel_31 (by decide) ?_
      refine lv_iload_n hx hb dX5_refuel_33 rfl (lv_at hl 1 rfl) ?_
      refine lv_iadd hx hb dX5_refuel_34 ?_
      obtain ⟨g6, h⟩ := gd_s h
      refine va_iald hx hb hK hP 1 0 rfl rfl (ib_in g6) dX5_refuel_35 ?_
      refine lv_istore_n (lv' := [(3, .int (q5.1 (57 + p0).toNatClampNeg)), (0, .ref (aM 0)), (1, .int p0), (2, .int p1)]) hx hb dX5_refuel_36 rfl hl (by decide) rfl (fun ls hl => ?_)
      refine lv_aload_n hx hb dX5_refuel_37 rfl (lv_at hl 1 rfl) ?_
      refine va_get (D := G) (ci := 5) (v := .ref (aM 1)) (C := RX5) (T := TX5) (N := 16) hx hb hts uX5 hown hK hP 0 rfl rfl 0 (by decide) (hts _ kw579) (fun _ h9 => h9) rfl dX5_refuel_38 ?_
      refine lv_bipush (v := 57) hx hb dX5_refuel_41 (by decide) ?_
      refine lv_iload_n hx hb dX5_refuel_43 rfl (lv_at hl 2 rfl) ?_
      refine lv_iadd hx hb dX5_refuel_44 ?_
      refine lv_iload_n hx hb dX5_refuel_45 rfl (lv_at hl 3 rfl) ?_
      obtain ⟨g7, h⟩ := gd_s h
      refine va_iast hx hb hK hP hD hS 1 0 rfl rfl (ib_in g7) dX5_refuel_46 (fun H locs hP hD hS => ?_)
      have hP : va_P G vwCl (wM cI cJ aM (upd q5.1 (57 + p0).toNatClampNeg p1) q5.2.1 tab goa bes tic txt par q5.2.2 bwh bpr bse len mat ask hh ++ ([] : va_W)) H := hP
      have hD : va_D A (wM cI cJ aM (upd q5.1 (57 + p0).toNatClampNeg p1) q5.2.1 tab goa bes tic txt par q5.2.2 bwh bpr bse len mat ask hh ++ ([] : va_W)) := hD
      refine lv_iload_n hx hb dX5_refuel_47 rfl (lv_at hl 0 rfl) ?_
      rw [← Option.some.inj h]
      exact kri hx hb hr hlk rfl rfl hP hD hS hK dX5_refuel_48
    · replace h := (if_pos c4).symm.trans h
      refine lv_ldc (v := (-2000000002)) hx hb hown (hts _ kw639) dX5_refuel_20 ?_
      rw [← Option.some.inj h]
      exact kri hx hb hr hlk rfl rfl hP hD hS hK dX5_refuel_22
  · replace h := (if_pos c2).symm.trans h
    refine lv_ldc (v := (-2000000001)) hx hb hown (hts _ kw638) dX5_refuel_7 ?_
    rw [← Option.some.inj h]
    exact kri hx hb hr hlk rfl rfl hP hD hS hK dX5_refuel_9

/-! X5_fuel -/
def f_X5_fuel (row : Nat → Int32) (p0 : Int32) : Option (Int32) :=
  (f_X5_isTank p0).bind (fun q1 => if q1 = 0 then (some (-2000000001)) else (gd (ib (57 + p0) 708) (some (row (57 + p0).toNatClampNeg))))

set_option maxHeartbeats 4000000 in
set_option maxRecDepth 100000 in
theorem c_X5_fuel (l : Launch) (G : va_G) (cI cJ cZ cO cA : ClassId) (e : Nat × Nat) (aM : Nat → Nat) (sz : Nat) (row : Nat → Int32) (tot : Nat → Int64) (tab : Nat → Int64) (goa : Nat → Int64) (bes : Nat → Int64) (tic : Nat → Int64) (txt : Nat → Int32) (par : Nat → Int32) (sav : Int32) (bwh : Int64) (bpr : Int64) (bse : Int32) (len : Int32) (mat : Int32) (ask : Int32) (hh : Int64) (p0 : Int32) {res : Int32} (hf : f_X5_fuel row p0 = some res) : MetI l yX5_fuel cX5_fuel 2 .int ({ frames := 2, cells := 0, slots := 0, locals := 42 } : Room) [.ref (aM 0), .int p0] G (ty5 cI cJ cZ cO cA) e (wM cI cJ aM row tot tab goa bes tic txt par sav bwh bpr bse len mat ask hh ++ ([] : va_W)) (wM cI cJ aM row tot tab goa bes tic txt par sav bwh bpr bse len mat ask hh ++ ([] : va_W)) sz res := by
  refine g_body (QQ := fun A => (qI G (ty5 cI cJ cZ cO cA) A (wM cI cJ aM row tot tab goa bes tic txt par sav bwh bpr bse len mat ask hh ++ ([] : va_W)) res)) (own := RX5) (by decide) rfl (Nat.le_of_ble_eq_true rfl) ?_
  intro p ev s m below meth c A ls hx hb hr hml hown hts hlk hA hP hD hS hK hE hl
  have hl : lv_has ls 2 [(0, .ref (aM 0)), (1, .int p0)] := hl
  show W p l ev ({ frames := 2, cells := 0, slots := 0, locals := 42 } : Room) s m ([.ref (aM 0), .int p0] : List Value).toArray below meth c s.heap [] 0 0 (MQ below (qI G (ty5 cI cJ cZ cO cA) A (wM cI cJ aM row tot tab goa bes tic txt par sav bwh bpr bse len mat ask hh ++ ([] : va_W)) res) ([.ref (aM 0), .int p0] : List Value).toArray s 0 0 A) (F0 m 0 ls [])
  have h := hf
  unfold f_X5_fuel at h
  refine lv_iload_n hx hb dX5_fuel_0 rfl (lv_at hl 1 rfl) ?_
  obtain ⟨q1, hq1, h⟩ := bd_s h
  refine kSi (n := 1) (As := [.int p0]) (rest := []) hx hb hml hown hts (c_X5_isTank l G cI cJ cZ cO cA e _ p0 hq1) (tb_S kw632 kw633 kw7 kw634) rfl rfl (by decide +kernel) ⟨Nat.le_of_ble_eq_true rfl, Nat.le_of_ble_eq_true rfl⟩ hK hP hD hS hA hE rfl rfl hl.1 (Nat.le_of_ble_eq_true rfl) ⟨Nat.zero_le _, Nat.zero_le _⟩ dX5_fuel_1 (fun H locs hP hD hS => ?_)
  refine lv_if_eq (tgt := 19) hx hb dX5_fuel_4 (by decide) (fun c2 => ?_) (fun c2 => ?_)
  · replace h := (if_pos c2).symm.trans h
    refine lv_ldc (v := (-2000000001)) hx hb hown (hts _ kw638) dX5_fuel_19 ?_
    rw [← Option.some.inj h]
    exact kri hx hb hr hlk rfl rfl hP hD hS hK dX5_fuel_21
  · replace h := (if_neg c2).symm.trans h
    refine lv_aload_n hx hb dX5_fuel_7 rfl (lv_at hl 0 rfl) ?_
    refine va_get (D := G) (ci := 5) (v := .ref (aM 1)) (C := RX5) (T := TX5) (N := 16) hx hb hts uX5 hown hK hP 0 rfl rfl 0 (by decide) (hts _ kw579) (fun _ h9 => h9) rfl dX5_fuel_8 ?_
    refine lv_bipush (v := 57) hx hb dX5_fuel_11 (by decide) ?_
    refine lv_iload_n hx hb dX5_fuel_13 rfl (lv_at hl 1 rfl) ?_
    refine lv_iadd hx hb dX5_fuel_14 ?_
    obtain ⟨g3, h⟩ := gd_s h
    refine va_iald hx hb hK hP 1 0 rfl rfl (ib_in g3) dX5_fuel_15 ?_
    refine lv_goto (tgt := 21) hx hb dX5_fuel_16 (by decide) ?_
    rw [← Option.some.inj h]
    exact kri hx hb hr hlk rfl rfl hP hD hS hK dX5_fuel_21

/-! X5_bits -/
def f_X5_bits_b4 (v0 : Int32) (z1 : Int32 × Int32) : Option ((Int32 × Int32) ⊕ (Int32)) :=
  if 8 ≤ z1.2 then (some (Sum.inr z1.1)) else (some (Sum.inl ((z1.1 + ((v0 >>> (z1.2 &&& 31)) &&& 1)), (z1.2 + 1))))
def f_X5_bits (p0 : Int32) : Option (Int32) :=
  (lp (f_X5_bits_b4 p0) 1000 (0, 0)).bind (fun q1 => some q1)

set_option maxHeartbeats 4000000 in
set_option maxRecDepth 100000 in
theorem c_X5_bits (l : Launch) (G : va_G) (cI cJ cZ cO cA : ClassId) (e : Nat × Nat) (sz : Nat) (p0 : Int32) {res : Int32} (hf : f_X5_bits p0 = some res) : MetI l yX5_bits cX5_bits 3 .int ({ frames := 0, cells := 0, slots := 0, locals := 0 } : Room) [.int p0] G (ty5 cI cJ cZ cO cA) e (([] : va_W)) (([] : va_W)) sz res := by
  refine g_body (QQ := fun A => (qI G (ty5 cI cJ cZ cO cA) A (([] : va_W)) res)) (own := RX5) (by decide) rfl (Nat.le_of_ble_eq_true rfl) ?_
  intro p ev s m below meth c A ls hx hb hr hml hown hts hlk hA hP hD hS hK hE hl
  have hl : lv_has ls 3 [(0, .int p0)] := hl
  show W p l ev ({ frames := 0, cells := 0, slots := 0, locals := 0 } : Room) s m ([.int p0] : List Value).toArray below meth c s.heap [] 0 0 (MQ below (qI G (ty5 cI cJ cZ cO cA) A (([] : va_W)) res) ([.int p0] : List Value).toArray s 0 0 A) (F0 m 0 ls [])
  have h := hf
  unfold f_X5_bits at h
  refine lv_iconst (v := 0) hx hb dX5_bits_0 (by decide) ?_
  refine lv_istore_n (lv' := [(1, .int 0), (0, .int p0)]) hx hb dX5_bits_1 rfl hl (by decide) rfl (fun ls hl => ?_)
  refine lv_iconst (v := 0) hx hb dX5_bits_2 (by decide) ?_
  refine lv_istore_n (lv' := [(2, .int 0), (1, .int 0), (0, .int p0)]) hx hb dX5_bits_3 rfl hl (by decide) rfl (fun ls hl => ?_)
  obtain ⟨q1, hq1, h⟩ := bd_s h
  have hX1_0 : ∀ (x1 : Int32) (H : Heap) (locs : List Loc) (ls : Array Slot), x1 = q1 → va_P G vwCl (([] : va_W)) H → va_D A (([] : va_W)) → va_S A s.heap H locs → lv_has ls 3 [(1, .int x1)] → W p l ev ({ frames := 0, cells := 0, slots := 0, locals := 0 } : Room) s m ([.int p0] : List Value).toArray below meth c H locs 0 0 (MQ below (qI G (ty5 cI cJ cZ cO cA) A (([] : va_W)) res) ([.int p0] : List Value).toArray s 0 0 A) (F0 m 24 ls []) := by
    intro x1 H locs ls e1 hP hD hS hl
    replace e1 := e1.symm
    subst e1
    refine lv_iload_n hx hb dX5_bits_24 rfl (lv_at hl 0 rfl) ?_
    rw [← Option.some.inj h]
    exact kri hx hb hr hlk rfl rfl hP hD hS hK dX5_bits_25
  have hL1 : ∀ (n : Nat) (z1 : Int32 × Int32) (H : Heap) (locs : List Loc) (ls : Array Slot), lp (f_X5_bits_b4 p0) n z1 = some q1 → va_P G vwCl (([] : va_W)) H → va_D A (([] : va_W)) → va_S A s.heap H locs → lv_has ls 3 [(0, .int p0), (1, .int z1.1), (2, .int z1.2)] → W p l ev ({ frames := 0, cells := 0, slots := 0, locals := 0 } : Room) s m ([.int p0] : List Value).toArray below meth c H locs 0 0 (MQ below (qI G (ty5 cI cJ cZ cO cA) A (([] : va_W)) res) ([.int p0] : List Value).toArray s 0 0 A) (F0 m 4 ls []) := by
    intro n
    induction n with
    | zero => intro z1 H locs ls h; cases h
    | succ n ih1 =>
      intro z1 H locs ls h hP hD hS hl
      obtain ⟨o1, h, h1⟩ := lp_s h
      unfold f_X5_bits_b4 at h
      refine lv_iload_n hx hb dX5_bits_4 rfl (lv_at hl 2 rfl) ?_
      refine lv_bipush (v := 8) hx hb dX5_bits_5 (by decide) ?_
      refine lv_icmp_ge (tgt := 24) hx hb dX5_bits_7 (by decide) (fun c2 => ?_) (fun c2 => ?_)
      · replace h := (if_pos c2).symm.trans h
        rw [← Option.some.inj h] at h1
        exact hX1_0 z1.1 _ _ _ (lp_x h1) hP hD hS (lv_sub hl [1] rfl)
      · replace h := (if_neg c2).symm.trans h
        refine lv_iload_n hx hb dX5_bits_10 rfl (lv_at hl 1 rfl) ?_
        refine lv_iload_n hx hb dX5_bits_11 rfl (lv_at hl 0 rfl) ?_
        refine lv_iload_n hx hb dX5_bits_12 rfl (lv_at hl 2 rfl) ?_
        refine lv_ishr hx hb dX5_bits_13 ?_
        refine lv_iconst (v := 1) hx hb dX5_bits_14 (by decide) ?_
        refine lv_iand hx hb dX5_bits_15 ?_
        refine lv_iadd hx hb dX5_bits_16 ?_
        refine lv_istore_n (lv' := [(1, .int (z1.1 + ((p0 >>> (z1.2 &&& 31)) &&& 1))), (0, .int p0), (2, .int z1.2)]) hx hb dX5_bits_17 rfl hl (by decide) rfl (fun ls hl => ?_)
        refine lv_iinc (v := (z1.2 + 1)) (lv' := [(2, .int (z1.2 + 1)), (1, .int (z1.1 + ((p0 >>> (z1.2 &&& 31)) &&& 1))), (0, .int p0)]) hx hb dX5_bits_18 hl (k := 2) rfl rfl (by decide) rfl (fun ls hl => ?_)
        refine lv_goto (tgt := 4) hx hb dX5_bits_21 (by decide) ?_
        rw [← Option.some.inj h] at h1
        exact ih1 ((z1.1 + ((p0 >>> (z1.2 &&& 31)) &&& 1)), (z1.2 + 1)) _ _ _ (lp_b h1) hP hD hS (lv_sub hl [2, 1, 0] rfl)
  exact hL1 _ (0, 0) _ _ _ hq1 hP hD hS (lv_sub hl [2, 1, 0] rfl)

/-! X5_find -/
def f_X5_find_j33 (v3 : Int32) (t0 : Int32) : Option ((Int32 × Int32) ⊕ (Int32)) :=
  some (Sum.inl (t0, (v3 + 1)))
def f_X5_find_b4 (row : Nat → Int32) (v1 : Int32) (z1 : Int32 × Int32) : Option ((Int32 × Int32) ⊕ (Int32)) :=
  gd (ib 59 708) (if (row (59 : Int32).toNatClampNeg) ≤ z1.2 then (some (Sum.inr z1.1)) else (gd (ib (60 + z1.2) 708) (if (row (60 + z1.2).toNatClampNeg) = v1 then (f_X5_find_j33 z1.2 z1.2) else (f_X5_find_j33 z1.2 z1.1))))
def f_X5_find (row : Nat → Int32) (p0 : Int32) : Option (Int32) :=
  (lp (f_X5_find_b4 row p0) 1000 ((-1), 0)).bind (fun q1 => some q1)

set_option maxHeartbeats 4000000 in
set_option maxRecDepth 100000 in
theorem c_X5_find (l : Launch) (G : va_G) (cI cJ cZ cO cA : ClassId) (e : Nat × Nat) (aM : Nat → Nat) (sz : Nat) (row : Nat → Int32) (tot : Nat → Int64) (tab : Nat → Int64) (goa : Nat → Int64) (bes : Nat → Int64) (tic : Nat → Int64) (txt : Nat → Int32) (par : Nat → Int32) (sav : Int32) (bwh : Int64) (bpr : Int64) (bse : Int32) (len : Int32) (mat : Int32) (ask : Int32) (hh : Int64) (p0 : Int32) {res : Int32} (hf : f_X5_find row p0 = some res) : MetI l yX5_find cX5_find 4 .int ({ frames := 0, cells := 0, slots := 0, locals := 0 } : Room) [.ref (aM 0), .int p0] G (ty5 cI cJ cZ cO cA) e (wM cI cJ aM row tot tab goa bes tic txt par sav bwh bpr bse len mat ask hh ++ ([] : va_W)) (wM cI cJ aM row tot tab goa bes tic txt par sav bwh bpr bse len mat ask hh ++ ([] : va_W)) sz res := by
  refine g_body (QQ := fun A => (qI G (ty5 cI cJ cZ cO cA) A (wM cI cJ aM row tot tab goa bes tic txt par sav bwh bpr bse len mat ask hh ++ ([] : va_W)) res)) (own := RX5) (by decide) rfl (Nat.le_of_ble_eq_true rfl) ?_
  intro p ev s m below meth c A ls hx hb hr hml hown hts hlk hA hP hD hS hK hE hl
  have hl : lv_has ls 4 [(0, .ref (aM 0)), (1, .int p0)] := hl
  show W p l ev ({ frames := 0, cells := 0, slots := 0, locals := 0 } : Room) s m ([.ref (aM 0), .int p0] : List Value).toArray below meth c s.heap [] 0 0 (MQ below (qI G (ty5 cI cJ cZ cO cA) A (wM cI cJ aM row tot tab goa bes tic txt par sav bwh bpr bse len mat ask hh ++ ([] : va_W)) res) ([.ref (aM 0), .int p0] : List Value).toArray s 0 0 A) (F0 m 0 ls [])
  have h := hf
  unfold f_X5_find at h
  refine lv_iconst (v := (-1)) hx hb dX5_find_0 (by decide) ?_
  refine lv_istore_n (lv' := [(2, .int (-1)), (0, .ref (aM 0)), (1, .int p0)]) hx hb dX5_find_1 rfl hl (by decide) rfl (fun ls hl => ?_)
  refine lv_iconst (v := 0) hx hb dX5_find_2 (by decide) ?_
  refine lv_istore_n (lv' := [(3, .int 0), (2, .int (-1)), (0, .ref (aM 0)), (1, .int p0)]) hx hb dX5_find_3 rfl hl (by decide) rfl (fun ls hl => ?_)
  obtain ⟨q1, hq1, h⟩ := bd_s h
  have hX1_0 : ∀ (x1 : Int32) (H : Heap) (locs : List Loc) (ls : Array Slot), x1 = q1 → va_P G vwCl (wM cI cJ aM row tot tab goa bes tic txt par sav bwh bpr bse len mat ask hh ++ ([] : va_W)) H → va_D A (wM cI cJ aM row tot tab goa bes tic txt par sav bwh bpr bse len mat ask hh ++ ([] : va_W)) → va_S A s.heap H locs → lv_has ls 4 [(2, .int x1)] → W p l ev ({ frames := 0, cells := 0, slots := 0, locals := 0 } : Room) s m ([.ref (aM 0), .int p0] : List Value).toArray below meth c H locs 0 0 (MQ below (qI G (ty5 cI cJ cZ cO cA) A (wM cI cJ aM row tot tab goa bes tic txt par sav bwh bpr bse len mat ask hh ++ ([] : va_W)) res) ([.ref (aM 0), .int p0] : List Value).toArray s 0 0 A) (F0 m 40 ls []) := by
    intro x1 H locs ls e1 hP hD hS hl
    replace e1 := e1.symm
    subst e1
    refine lv_iload_n hx hb dX5_find_40 rfl (lv_at hl 0 rfl) ?_
    rw [← Option.some.inj h]
    exact kri hx hb hr hlk rfl rfl hP hD hS hK dX5_find_41
  have hL1 : ∀ (n : Nat) (z1 : Int32 × Int32) (H : Heap) (locs : List Loc) (ls : Array Slot), lp (f_X5_find_b4 row p0) n z1 = some q1 → va_P G vwCl (wM cI cJ aM row tot tab goa bes tic txt par sav bwh bpr bse len mat ask hh ++ ([] : va_W)) H → va_D A (wM cI cJ aM row tot tab goa bes tic txt par sav bwh bpr bse len mat ask hh ++ ([] : va_W)) → va_S A s.heap H locs → lv_has ls 4 [(0, .ref (aM 0)), (1, .int p0), (2, .int z1.1), (3, .int z1.2)] → W p l ev ({ frames := 0, cells := 0, slots := 0, locals := 0 } : Room) s m ([.ref (aM 0), .int p0] : List Value).toArray below meth c H locs 0 0 (MQ below (qI G (ty5 cI cJ cZ cO cA) A (wM cI cJ aM row tot tab goa bes tic txt par sav bwh bpr bse len mat ask hh ++ ([] : va_W)) res) ([.ref (aM 0), .int p0] : List Value).toArray s 0 0 A) (F0 m 4 ls []) := by
    intro n
    induction n with
    | zero => intro z1 H locs ls h; cases h
    | succ n ih1 =>
      intro z1 H locs ls h hP hD hS hl
      obtain ⟨o1, h, h1⟩ := lp_s h
      unfold f_X5_find_b4 at h
      refine lv_iload_n hx hb dX5_find_4 rfl (lv_at hl 3 rfl) ?_
      refine lv_aload_n hx hb dX5_find_5 rfl (lv_at hl 0 rfl) ?_
      refine va_get (D := G) (ci := 5) (v := .ref (aM 1)) (C := RX5) (T := TX5) (N := 16) hx hb hts uX5 hown hK hP 0 rfl rfl 0 (by decide) (hts _ kw579) (fun _ h9 => h9) rfl dX5_find_6 ?_
      refine lv_bipush (v := 59) hx hb dX5_find_9 (by decide) ?_
      obtain ⟨g2, h⟩ := gd_s h
      refine va_iald hx hb hK hP 1 0 rfl rfl (ib_in g2) dX5_find_11 ?_
      refine lv_icmp_ge (tgt := 40) hx hb dX5_find_12 (by decide) (fun c3 => ?_) (fun c3 => ?_)
      · replace h := (if_pos c3).symm.trans h
        rw [← Option.some.inj h] at h1
        exact hX1_0 z1.1 _ _ _ (lp_x h1) hP hD hS (lv_sub hl [2] rfl)
      · replace h := (if_neg c3).symm.trans h
        refine lv_aload_n hx hb dX5_find_15 rfl (lv_at hl 0 rfl) ?_
        refine va_get (D := G) (ci := 5) (v := .ref (aM 1)) (C := RX5) (T := TX5) (N := 16) hx hb hts uX5 hown hK hP 0 rfl rfl 0 (by decide) (hts _ kw579) (fun _ h9 => h9) rfl dX5_find_16 ?_
        refine lv_bipush (v := 60) hx hb dX5_find_19 (by decide) ?_
        refine lv_iload_n hx hb dX5_find_21 rfl (lv_at hl 3 rfl) ?_
        refine lv_iadd hx hb dX5_find_22 ?_
        obtain ⟨g4, h⟩ := gd_s h
        refine va_iald hx hb hK hP 1 0 rfl rfl (ib_in g4) dX5_find_23 ?_
        refine lv_iload_n hx hb dX5_find_24 rfl (lv_at hl 1 rfl) ?_
        have hJ6 : ∀ (v3_6 : Int32) (t0_6 : Int32) (H : Heap) (locs : List Loc) (ls : Array Slot), f_X5_find_j33 v3_6 t0_6 = some o1 → va_P G vwCl (wM cI cJ aM row tot tab goa bes tic txt par sav bwh bpr bse len mat ask hh ++ ([] : va_W)) H → va_D A (wM cI cJ aM row tot tab goa bes tic txt par sav bwh bpr bse len mat ask hh ++ ([] : va_W)) → va_S A s.heap H locs → lv_has ls 4 [(0, .ref (aM 0)), (1, .int p0), (3, .int v3_6)] → W p l ev ({ frames := 0, cells := 0, slots := 0, locals := 0 } : Room) s m ([.ref (aM 0), .int p0] : List Value).toArray below meth c H locs 0 0 (MQ below (qI G (ty5 cI cJ cZ cO cA) A (wM cI cJ aM row tot tab goa bes tic txt par sav bwh bpr bse len mat ask hh ++ ([] : va_W)) res) ([.ref (aM 0), .int p0] : List Value).toArray s 0 0 A) (F0 m 33 ls [.int t0_6]) := by
          intro v3_6 t0_6 H locs ls h hP hD hS hl
          unfold f_X5_find_j33 at h
          refine lv_istore_n (lv' := [(2, .int t0_6), (0, .ref (aM 0)), (1, .int p0), (3, .int v3_6)]) hx hb dX5_find_33 rfl hl (by decide) rfl (fun ls hl => ?_)
          refine lv_iinc (v := (v3_6 + 1)) (lv' := [(3, .int (v3_6 + 1)), (2, .int t0_6), (0, .ref (aM 0)), (1, .int p0)]) hx hb dX5_find_34 hl (k := 3) rfl rfl (by decide) rfl (fun ls hl => ?_)
          refine lv_goto (tgt := 4) hx hb dX5_find_37 (by decide) ?_
          rw [← Option.some.inj h] at h1
          exact ih1 (t0_6, (v3_6 + 1)) _ _ _ (lp_b h1) hP hD hS (lv_sub hl [2, 3, 1, 0] rfl)
        refine lv_icmp_ne (tgt := 32) hx hb dX5_find_25 (by decide) (fun c5 => ?_) (fun c5 => ?_)
        · replace h := (if_neg c5).symm.trans h
          refine lv_iload_n hx hb dX5_find_32 rfl (lv_at hl 2 rfl) ?_
          exact hJ6 z1.2 z1.1 _ _ _ h hP hD hS (lv_sub hl [0, 1, 3] rfl)
        · replace h := (if_pos c5).symm.trans h
          refine lv_iload_n hx hb dX5_find_28 rfl (lv_at hl 3 rfl) ?_
          refine lv_goto (tgt := 33) hx hb dX5_find_29 (by decide) ?_
          exact hJ6 z1.2 z1.2 _ _ _ h hP hD hS (lv_sub hl [0, 1, 3] rfl)
  exact hL1 _ ((-1), 0) _ _ _ hq1 hP hD hS (lv_sub hl [2, 3, 1, 0] rfl)

/-! X5_forbid -/
def f_X5_forbid_j26 (row : Nat → Int32) (tot : Nat → Int64) (sav : Int32) : Option (Int32 × (Nat → Int32) × (Nat → Int64) × Int32) :=
  some ((-2000000002), row, tot, sav)
def f_X5_forbid (row : Nat → Int32) (tot : Nat → Int64) (sav : Int32) (p0 : Int32) : Option (Int32 × (Nat → Int32) × (Nat → Int64) × Int32) :=
  gd (ib 0 708) ((f_X5_in p0 0 ((1 <<< ((row (0 : Int32).toNatClampNeg) &&& 31)) - 1)).bind (fun q2 => if q2 = 0 then (f_X5_forbid_j26 row tot sav) else ((f_X5_bits p0).bind (fun q5 => if 2 ≤ q5 then ((f_X5_find row p0).bind (fun q7 => if q7 < 0 then (gd (ib 59 708) (if (row (59 : Int32).toNatClampNeg) = 8 then (some ((-2000000004), row, tot, sav)) else ((f_X5_saves row tot sav).bind (fun q11 => gd (ib 59 708) (gd (ib (60 + (q11.1 (59 : Int32).toNatClampNeg)) 708) (gd (ib 59 708) (gd (ib 59 708) (gd (ib 59 708) (some (((upd (upd q11.1 (60 + (q11.1 (59 : Int32).toNatClampNeg)).toNatClampNeg p0) (59 : Int32).toNatClampNeg (((upd q11.1 (60 + (q11.1 (59 : Int32).toNatClampNeg)).toNatClampNeg p0) (59 : Int32).toNatClampNeg) + 1)) (59 : Int32).toNatClampNeg), (upd (upd q11.1 (60 + (q11.1 (59 : Int32).toNatClampNeg)).toNatClampNeg p0) (59 : Int32).toNatClampNeg (((upd q11.1 (60 + (q11.1 (59 : Int32).toNatClampNeg)).toNatClampNeg p0) (59 : Int32).toNatClampNeg) + 1)), q11.2.1, q11.2.2)))))))))) else (some ((-2000000003), row, tot, sav)))) else (f_X5_forbid_j26 row tot sav)))))

set_option maxHeartbeats 4000000 in
set_option maxRecDepth 100000 in
theorem c_X5_forbid (l : Launch) (G : va_G) (cI cJ cZ cO cA : ClassId) (e : Nat × Nat) (aM : Nat → Nat) (sz : Nat) (row : Nat → Int32) (tot : Nat → Int64) (tab : Nat → Int64) (goa : Nat → Int64) (bes : Nat → Int64) (tic : Nat → Int64) (txt : Nat → Int32) (par : Nat → Int32) (sav : Int32) (bwh : Int64) (bpr : Int64) (bse : Int32) (len : Int32) (mat : Int32) (ask : Int32) (hh : Int64) (p0 : Int32) {res : Int32 × (Nat → Int32) × (Nat → Int64) × Int32} (hf : f_X5_forbid row tot sav p0 = some res) : MetI l yX5_forbid cX5_forbid 2 .int ({ frames := 2, cells := 0, slots := 0, locals := 44 } : Room) [.ref (aM 0), .int p0] G (ty5 cI cJ cZ cO cA) e (wM cI cJ aM row tot tab goa bes tic txt par sav bwh bpr bse len mat ask hh ++ ([] : va_W)) (wM cI cJ aM res.2.1 res.2.2.1 tab goa bes tic txt par res.2.2.2 bwh bpr bse len mat ask hh ++ ([] : va_W)) sz res.1 := by
  refine g_body (QQ := fun A => (qI G (ty5 cI cJ cZ cO cA) A (wM cI cJ aM res.2.1 res.2.2.1 tab goa bes tic txt par res.2.2.2 bwh bpr bse len mat ask hh ++ ([] : va_W)) res.1)) (own := RX5) (by decide) rfl (Nat.le_of_ble_eq_true rfl) ?_
  intro p ev s m below meth c A ls hx hb hr hml hown hts hlk hA hP hD hS hK hE hl
  have hl : lv_has ls 2 [(0, .ref (aM 0)), (1, .int p0)] := hl
  show W p l ev ({ frames := 2, cells := 0, slots := 0, locals := 44 } : Room) s m ([.ref (aM 0), .int p0] : List Value).toArray below meth c s.heap [] 0 0 (MQ below (qI G (ty5 cI cJ cZ cO cA) A (wM cI cJ aM res.2.1 res.2.2.1 tab goa bes tic txt par res.2.2.2 bwh bpr bse len mat ask hh ++ ([] : va_W)) res.1) ([.ref (aM 0), .int p0] : List Value).toArray s 0 0 A) (F0 m 0 ls [])
  have h := hf
  unfold f_X5_forbid at h
  refine lv_iload_n hx hb dX5_forbid_0 rfl (lv_at hl 1 rfl) ?_
  refine lv_iconst (v := 0) hx hb dX5_forbid_1 (by decide) ?_
  refine lv_iconst (v := 1) hx hb dX5_forbid_2 (by decide) ?_
  refine lv_aload_n hx hb dX5_forbid_3 rfl (lv_at hl 0 rfl) ?_
  refine va_get (D := G) (ci := 5) (v := .ref (aM 1)) (C := RX5) (T := TX5) (N := 16) hx hb hts uX5 hown hK hP 0 rfl rfl 0 (by decide) (hts _ kw579) (fun _ h9 => h9) rfl dX5_forbid_4 ?_
  refine lv_iconst (v := 0) hx hb dX5_forbid_7 (by decide) ?_
  obtain ⟨g1, h⟩ := gd_s h
  refine va_iald hx hb hK hP 1 0 rfl rfl (ib_in g1) dX5_forbid_8 ?_
  refine lv_ishl hx hb dX5_forbid_9 ?_
  refine lv_iconst (v := 1) hx hb dX5_forbid_10 (by decide) ?_
  refine lv_isub hx hb dX5_forbid_11 ?_
  obtain ⟨q2, hq2, h⟩ := bd_s h
  refine kSi (n := 3) (As := [.int p0, .int 0, .int ((1 <<< ((row (0 : Int32).toNatClampNeg) &&& 31)) - 1)]) (rest := []) hx hb hml hown hts (c_X5_in l G cI cJ cZ cO cA e _ p0 0 ((1 <<< ((row (0 : Int32).toNatClampNeg) &&& 31)) - 1) hq2) (tb_S kw635 kw636 kw7 kw637) rfl rfl (by decide +kernel) ⟨Nat.le_of_ble_eq_true rfl, Nat.le_of_ble_eq_true rfl⟩ hK hP hD hS hA hE rfl rfl hl.1 (Nat.le_of_ble_eq_true rfl) ⟨Nat.zero_le _, Nat.zero_le _⟩ dX5_forbid_12 (fun H locs hP hD hS => ?_)
  have hJ4 : ∀ (row_4 : Nat → Int32) (tot_4 : Nat → Int64) (sav_4 : Int32) (H : Heap) (locs : List Loc) (ls : Array Slot), f_X5_forbid_j26 row_4 tot_4 sav_4 = some res → va_P G vwCl (wM cI cJ aM row_4 tot_4 tab goa bes tic txt par sav_4 bwh bpr bse len mat ask hh ++ ([] : va_W)) H → va_D A (wM cI cJ aM row_4 tot_4 tab goa bes tic txt par sav_4 bwh bpr bse len mat ask hh ++ ([] : va_W)) → va_S A s.heap H locs → lv_has ls 2 [] → W p l ev ({ frames := 2, cells := 0, slots := 0, locals := 44 } : Room) s m ([.ref (aM 0), .int p0] : List Value).toArray below meth c H locs 0 0 (MQ below (qI G (ty5 cI cJ cZ cO cA) A (wM cI cJ aM res.2.1 res.2.2.1 tab goa bes tic txt par res.2.2.2 bwh bpr bse len mat ask hh ++ ([] : va_W)) res.1) ([.ref (aM 0), .int p0] : List Value).toArray s 0 0 A) (F0 m 26 ls []) := by
    intro row_4 tot_4 sav_4 H locs ls h hP hD hS hl
    unfold f_X5_forbid_j26 at h
    refine lv_ldc (v := (-2000000002)) hx hb hown (hts _ kw639) dX5_forbid_26 ?_
    rw [← Option.some.inj h]
    exact kri hx hb hr hlk rfl rfl hP hD hS hK dX5_forbid_28
  refine lv_if_eq (tgt := 26) hx hb dX5_forbid_15 (by decide) (fun c3 => ?_) (fun c3 => ?_)
  · replace h := (if_pos c3).symm.trans h
    exact hJ4 row tot sav _ _ _ h hP hD hS (lv_sub hl [] rfl)
  · replace h := (if_neg c3).symm.trans h
    refine lv_iload_n hx hb dX5_forbid_18 rfl (lv_at hl 1 rfl) ?_
    obtain ⟨q5, hq5, h⟩ := bd_s h
    refine kSi (n := 1) (As := [.int p0]) (rest := []) hx hb hml hown hts (c_X5_bits l G cI cJ cZ cO cA e _ p0 hq5) (tb_S kw716 kw717 kw7 kw718) rfl rfl (by decide +kernel) ⟨Nat.le_of_ble_eq_true rfl, Nat.le_of_ble_eq_true rfl⟩ hK hP hD hS hA hE rfl rfl hl.1 (Nat.le_of_ble_eq_true rfl) ⟨Nat.zero_le _, Nat.zero_le _⟩ dX5_forbid_19 (fun H locs hP hD hS => ?_)
    refine lv_iconst (v := 2) hx hb dX5_forbid_22 (by decide) ?_
    refine lv_icmp_ge (tgt := 29) hx hb dX5_forbid_23 (by decide) (fun c6 => ?_) (fun c6 => ?_)
    · replace h := (if_pos c6).symm.trans h
      refine lv_aload_n hx hb dX5_forbid_29 rfl (lv_at hl 0 rfl) ?_
      refine lv_iload_n hx hb dX5_forbid_30 rfl (lv_at hl 1 rfl) ?_
      obtain ⟨q7, hq7, h⟩ := bd_s h
      refine kVi (n := 1) (C := RX5) (ws' := wM cI cJ aM row tot tab goa bes tic txt par sav bwh bpr bse len mat ask hh ++ ([] : va_W)) (As := [.int p0]) (rest := []) hx hb hml hown hts (c_X5_find l G cI cJ cZ cO cA e aM _ row tot tab goa bes tic txt par sav bwh bpr bse len mat ask hh p0 hq7) (tb_V kw719 kw721 kv24 kw7 kw722) rfl rfl (by decide +kernel) ⟨Nat.le_of_ble_eq_true rfl, Nat.le_of_ble_eq_true rfl⟩ hK hP hD hS hA hE 0 rfl rfl [0, 1, 2, 3, 4, 5, 6, 7, 8] [] rfl rfl rfl 9 ⟨rfl, rfl⟩ (by decide +kernel) (by decide +kernel) rfl rfl hl.1 (Nat.le_of_ble_eq_true rfl) ⟨Nat.zero_le _, Nat.zero_le _⟩ dX5_forbid_31 (fun H locs hP hD hS => ?_)
      refine lv_if_lt (tgt := 40) hx hb dX5_forbid_34 (by decide) (fun c8 => ?_) (fun c8 => ?_)
      · replace h := (if_pos c8).symm.trans h
        refine lv_aload_n hx hb dX5_forbid_40 rfl (lv_at hl 0 rfl) ?_
        refine va_get (D := G) (ci := 5) (v := .ref (aM 1)) (C := RX5) (T := TX5) (N := 16) hx hb hts uX5 hown hK hP 0 rfl rfl 0 (by decide) (hts _ kw579) (fun _ h9 => h9) rfl dX5_forbid_41 ?_
        refine lv_bipush (v := 59) hx hb dX5_forbid_44 (by decide) ?_
        obtain ⟨g9, h⟩ := gd_s h
        refine va_iald hx hb hK hP 1 0 rfl rfl (ib_in g9) dX5_forbid_46 ?_
        refine lv_bipush (v := 8) hx hb dX5_forbid_47 (by decide) ?_
        refine lv_icmp_ne (tgt := 55) hx hb dX5_forbid_49 (by decide) (fun c10 => ?_) (fun c10 => ?_)
        · replace h := (if_neg c10).symm.trans h
          refine lv_aload_n hx hb dX5_forbid_55 rfl (lv_at hl 0 rfl) ?_
          obtain ⟨q11, hq11, h⟩ := bd_s h
          refine kVv (n := 0) (C := RX5) (ws' := wM cI cJ aM q11.1 q11.2.1 tab goa bes tic txt par q11.2.2 bwh bpr bse len mat ask hh ++ ([] : va_W)) (As := []) (rest := []) hx hb hml hown hts (c_X5_saves l G cI cJ cZ cO cA e aM _ row tot tab goa bes tic txt par sav bwh bpr bse len mat ask hh hq11) (tb_V kw641 kw643 kv14 kw7 kw644) rfl rfl (by decide +kernel) ⟨Nat.le_of_ble_eq_true rfl, Nat.le_of_ble_eq_true rfl⟩ hK hP hD hS hA hE 0 rfl rfl [0, 1, 2, 3, 4, 5, 6, 7, 8] [] rfl rfl rfl 9 ⟨rfl, rfl⟩ (by decide +kernel) (by decide +kernel) rfl rfl hl.1 (Nat.le_of_ble_eq_true rfl) ⟨Nat.zero_le _, Nat.zero_le _⟩ dX5_forbid_56 (fun H locs hP hD hS => ?_)
          refine lv_aload_n hx hb dX5_forbid_59 rfl (lv_at hl 0 rfl) ?_
          refine va_get (D := G) (ci := 5) (v := .ref (aM 1)) (C := RX5) (T := TX5) (N := 16) hx hb hts uX5 hown hK hP 0 rfl rfl 0 (by decide) (hts _ kw579) (fun _ h9 => h9) rfl dX5_forbid_60 ?_
          refine lv_bipush (v := 60) hx hb dX5_forbid_63 (by decide) ?_
          refine lv_aload_n hx hb dX5_forbid_65 rfl (lv_at hl 0 rfl) ?_
          refine va_get (D := G) (ci := 5) (v := .ref (aM 1)) (C := RX5) (T := TX5) (N := 16) hx hb hts uX5 hown hK hP 0 rfl rfl 0 (by decide) (hts _ kw579) (fun _ h9 => h9) rfl dX5_forbid_66 ?_
          refine lv_bipush (v := 59) hx hb dX5_forbid_69 (by decide) ?_
          obtain ⟨g12, h⟩ := gd_s h
          refine va_iald hx hb hK hP 1 0 rfl rfl (ib_in g12) dX5_forbid_71 ?_
          refine lv_iadd hx hb dX5_forbid_72 ?_
          refine lv_iload_n hx hb dX5_forbid_73 rfl (lv_at hl 1 rfl) ?_
          obtain ⟨g13, h⟩ := gd_s h
          refine va_iast hx hb hK hP hD hS 1 0 rfl rfl (ib_in g13) dX5_forbid_74 (fun H locs hP hD hS => ?_)
          have hP : va_P G vwCl (wM cI cJ aM (upd q11.1 (60 + (q11.1 (59 : Int32).toNatClampNeg)).toNatClampNeg p0) q11.2.1 tab goa bes tic txt par q11.2.2 bwh bpr bse len mat ask hh ++ ([] : va_W)) H := hP
          have hD : va_D A (wM cI cJ aM (upd q11.1 (60 + (q11.1 (59 : Int32).toNatClampNeg)).toNatClampNeg p0) q11.2.1 tab goa bes tic txt par q11.2.2 bwh bpr bse len mat ask hh ++ ([] : va_W)) := hD
          refine lv_aload_n hx hb dX5_forbid_75 rfl (lv_at hl 0 rfl) ?_
          refine va_get (D := G) (ci := 5) (v := .ref (aM 1)) (C := RX5) (T := TX5) (N := 16) hx hb hts uX5 hown hK hP 0 rfl rfl 0 (by decide) (hts _ kw579) (fun _ h9 => h9) rfl dX5_forbid_76 ?_
          refine lv_bipush (v := 59) hx hb dX5_forbid_79 (by decide) ?_
          refine lv_dup2_11 hx hb dX5_forbid_81 rfl rfl ?_
          obtain ⟨g14, h⟩ := gd_s h
          refine va_iald hx hb hK hP 1 0 rfl rfl (ib_in g14) dX5_forbid_82 ?_
          refine lv_iconst (v := 1) hx hb dX5_forbid_83 (by decide) ?_
          refine lv_iadd hx hb dX5_forbid_84 ?_
          obtain ⟨g15, h⟩ := gd_s h
          refine va_iast hx hb hK hP hD hS 1 0 rfl rfl (ib_in g15) dX5_forbid_85 (fun H locs hP hD hS => ?_)
          have hP : va_P G vwCl (wM cI cJ aM (upd (upd q11.1 (60 + (q11.1 (59 : Int32).toNatClampNeg)).toNatClampNeg p0) (59 : Int32).toNatClampNeg (((upd q11.1 (60 + (q11.1 (59 : Int32).toNatClampNeg)).toNatClampNeg p0) (59 : Int32).toNatClampNeg) + 1)) q11.2.1 tab goa bes tic txt par q11.2.2 bwh bpr bse len mat ask hh ++ ([] : va_W)) H := hP
          have hD : va_D A (wM cI cJ aM (upd (upd q11.1 (60 + (q11.1 (59 : Int32).toNatClampNeg)).toNatClampNeg p0) (59 : Int32).toNatClampNeg (((upd q11.1 (60 + (q11.1 (59 : Int32).toNatClampNeg)).toNatClampNeg p0) (59 : Int32).toNatClampNeg) + 1)) q11.2.1 tab goa bes tic txt par q11.2.2 bwh bpr bse len mat ask hh ++ ([] : va_W)) := hD
          refine lv_aload_n hx hb dX5_forbid_86 rfl (lv_at hl 0 rfl) ?_
          refine va_get (D := G) (ci := 5) (v := .ref (aM 1)) (C := RX5) (T := TX5) (N := 16) hx hb hts uX5 hown hK hP 0 rfl rfl 0 (by decide) (hts _ kw579) (fun _ h9 => h9) rfl dX5_forbid_87 ?_
          refine lv_bipush (v := 59) hx hb dX5_forbid_90 (by decide) ?_
          obtain ⟨g16, h⟩ := gd_s h
          refine va_iald hx hb hK hP 1 0 rfl rfl (ib_in g16) dX5_forbid_92 ?_
          rw [← Option.some.inj h]
          exact kri hx hb hr hlk rfl rfl hP hD hS hK dX5_forbid_93
        · replace h := (if_pos c10).symm.trans h
          refine lv_ldc (v := (-2000000004)) hx hb hown (hts _ kw640) dX5_forbid_52 ?_
          rw [← Option.some.inj h]
          exact kri hx hb hr hlk rfl rfl hP hD hS hK dX5_forbid_54
      · replace h := (if_neg c8).symm.trans h
        refine lv_ldc (v := (-2000000003)) hx hb hown (hts _ kw723) dX5_forbid_37 ?_
        rw [← Option.some.inj h]
        exact kri hx hb hr hlk rfl rfl hP hD hS hK dX5_forbid_39
    · replace h := (if_neg c6).symm.trans h
      exact hJ4 row tot sav _ _ _ h hP hD hS (lv_sub hl [] rfl)

/-! X5_allow -/
def f_X5_allow_b30 (z6 : (Nat → Int32) × Int32) : Option (((Nat → Int32) × Int32) ⊕ ((Nat → Int32))) :=
  gd (ib 59 708) (if (z6.1 (59 : Int32).toNatClampNeg) ≤ z6.2 then (some (Sum.inr z6.1)) else (gd (ib ((60 + z6.2) + 1) 708) (gd (ib (60 + z6.2) 708) (some (Sum.inl ((upd z6.1 (60 + z6.2).toNatClampNeg (z6.1 ((60 + z6.2) + 1).toNatClampNeg)), (z6.2 + 1)))))))
def f_X5_allow (row : Nat → Int32) (tot : Nat → Int64) (sav : Int32) (p0 : Int32) : Option (Int32 × (Nat → Int32) × (Nat → Int64) × Int32) :=
  (f_X5_find row p0).bind (fun q1 => if 0 ≤ q1 then ((f_X5_saves row tot sav).bind (fun q3 => gd (ib 59 708) (gd (ib 59 708) ((lp f_X5_allow_b30 1000 ((upd q3.1 (59 : Int32).toNatClampNeg ((q3.1 (59 : Int32).toNatClampNeg) - 1)), q1)).bind (fun q6 => gd (ib 59 708) (some ((q6 (59 : Int32).toNatClampNeg), q6, q3.2.1, q3.2.2))))))) else (some ((-2000000003), row, tot, sav)))

set_option maxHeartbeats 4000000 in
set_option maxRecDepth 100000 in
theorem c_X5_allow (l : Launch) (G : va_G) (cI cJ cZ cO cA : ClassId) (e : Nat × Nat) (aM : Nat → Nat) (sz : Nat) (row : Nat → Int32) (tot : Nat → Int64) (tab : Nat → Int64) (goa : Nat → Int64) (bes : Nat → Int64) (tic : Nat → Int64) (txt : Nat → Int32) (par : Nat → Int32) (sav : Int32) (bwh : Int64) (bpr : Int64) (bse : Int32) (len : Int32) (mat : Int32) (ask : Int32) (hh : Int64) (p0 : Int32) {res : Int32 × (Nat → Int32) × (Nat → Int64) × Int32} (hf : f_X5_allow row tot sav p0 = some res) : MetI l yX5_allow cX5_allow 4 .int ({ frames := 2, cells := 0, slots := 0, locals := 44 } : Room) [.ref (aM 0), .int p0] G (ty5 cI cJ cZ cO cA) e (wM cI cJ aM row tot tab goa bes tic txt par sav bwh bpr bse len mat ask hh ++ ([] : va_W)) (wM cI cJ aM res.2.1 res.2.2.1 tab goa bes tic txt par res.2.2.2 bwh bpr bse len mat ask hh ++ ([] : va_W)) sz res.1 := by
  refine g_body (QQ := fun A => (qI G (ty5 cI cJ cZ cO cA) A (wM cI cJ aM res.2.1 res.2.2.1 tab goa bes tic txt par res.2.2.2 bwh bpr bse len mat ask hh ++ ([] : va_W)) res.1)) (own := RX5) (by decide) rfl (Nat.le_of_ble_eq_true rfl) ?_
  intro p ev s m below meth c A ls hx hb hr hml hown hts hlk hA hP hD hS hK hE hl
  have hl : lv_has ls 4 [(0, .ref (aM 0)), (1, .int p0)] := hl
  show W p l ev ({ frames := 2, cells := 0, slots := 0, locals := 44 } : Room) s m ([.ref (aM 0), .int p0] : List Value).toArray below meth c s.heap [] 0 0 (MQ below (qI G (ty5 cI cJ cZ cO cA) A (wM cI cJ aM res.2.1 res.2.2.1 tab goa bes tic txt par res.2.2.2 bwh bpr bse len mat ask hh ++ ([] : va_W)) res.1) ([.ref (aM 0), .int p0] : List Value).toArray s 0 0 A) (F0 m 0 ls [])
  have h := hf
  unfold f_X5_allow at h
  refine lv_aload_n hx hb dX5_allow_0 rfl (lv_at hl 0 rfl) ?_
  refine lv_iload_n hx hb dX5_allow_1 rfl (lv_at hl 1 rfl) ?_
  obtain ⟨q1, hq1, h⟩ := bd_s h
  refine kVi (n := 1) (C := RX5) (ws' := wM cI cJ aM row tot tab goa bes tic txt par sav bwh bpr bse len mat ask hh ++ ([] : va_W)) (As := [.int p0]) (rest := []) hx hb hml hown hts (c_X5_find l G cI cJ cZ cO cA e aM _ row tot tab goa bes tic txt par sav bwh bpr bse len mat ask hh p0 hq1) (tb_V kw719 kw721 kv24 kw7 kw722) rfl rfl (by decide +kernel) ⟨Nat.le_of_ble_eq_true rfl, Nat.le_of_ble_eq_true rfl⟩ hK hP hD hS hA hE 0 rfl rfl [0, 1, 2, 3, 4, 5, 6, 7, 8] [] rfl rfl rfl 9 ⟨rfl, rfl⟩ (by decide +kernel) (by decide +kernel) rfl rfl hl.1 (Nat.le_of_ble_eq_true rfl) ⟨Nat.zero_le _, Nat.zero_le _⟩ dX5_allow_2 (fun H locs hP hD hS => ?_)
  refine lv_istore_n (lv' := [(2, .int q1), (0, .ref (aM 0)), (1, .int p0)]) hx hb dX5_allow_5 rfl hl (by decide) rfl (fun ls hl => ?_)
  refine lv_iload_n hx hb dX5_allow_6 rfl (lv_at hl 0 rfl) ?_
  refine lv_if_ge (tgt := 13) hx hb dX5_allow_7 (by decide) (fun c2 => ?_) (fun c2 => ?_)
  · replace h := (if_pos c2).symm.trans h
    refine lv_aload_n hx hb dX5_allow_13 rfl (lv_at hl 1 rfl) ?_
    obtain ⟨q3, hq3, h⟩ := bd_s h
    refine kVv (n := 0) (C := RX5) (ws' := wM cI cJ aM q3.1 q3.2.1 tab goa bes tic txt par q3.2.2 bwh bpr bse len mat ask hh ++ ([] : va_W)) (As := []) (rest := []) hx hb hml hown hts (c_X5_saves l G cI cJ cZ cO cA e aM _ row tot tab goa bes tic txt par sav bwh bpr bse len mat ask hh hq3) (tb_V kw641 kw643 kv14 kw7 kw644) rfl rfl (by decide +kernel) ⟨Nat.le_of_ble_eq_true rfl, Nat.le_of_ble_eq_true rfl⟩ hK hP hD hS hA hE 0 rfl rfl [0, 1, 2, 3, 4, 5, 6, 7, 8] [] rfl rfl rfl 9 ⟨rfl, rfl⟩ (by decide +kernel) (by decide +kernel) rfl rfl hl.1 (Nat.le_of_ble_eq_true rfl) ⟨Nat.zero_le _, Nat.zero_le _⟩ dX5_allow_14 (fun H locs hP hD hS => ?_)
    refine lv_aload_n hx hb dX5_allow_17 rfl (lv_at hl 1 rfl) ?_
    refine va_get (D := G) (ci := 5) (v := .ref (aM 1)) (C := RX5) (T := TX5) (N := 16) hx hb hts uX5 hown hK hP 0 rfl rfl 0 (by decide) (hts _ kw579) (fun _ h9 => h9) rfl dX5_allow_18 ?_
    refine lv_bipush (v := 59) hx hb dX5_allow_21 (by decide) ?_
    refine lv_dup2_11 hx hb dX5_allow_23 rfl rfl ?_
    obtain ⟨g4, h⟩ := gd_s h
    refine va_iald hx hb hK hP 1 0 rfl rfl (ib_in g4) dX5_allow_24 ?_
    refine lv_iconst (v := 1) hx hb dX5_allow_25 (by decide) ?_
    refine lv_isub hx hb dX5_allow_26 ?_
    obtain ⟨g5, h⟩ := gd_s h
    refine va_iast hx hb hK hP hD hS 1 0 rfl rfl (ib_in g5) dX5_allow_27 (fun H locs hP hD hS => ?_)
    have hP : va_P G vwCl (wM cI cJ aM (upd q3.1 (59 : Int32).toNatClampNeg ((q3.1 (59 : Int32).toNatClampNeg) - 1)) q3.2.1 tab goa bes tic txt par q3.2.2 bwh bpr bse len mat ask hh ++ ([] : va_W)) H := hP
    have hD : va_D A (wM cI cJ aM (upd q3.1 (59 : Int32).toNatClampNeg ((q3.1 (59 : Int32).toNatClampNeg) - 1)) q3.2.1 tab goa bes tic txt par q3.2.2 bwh bpr bse len mat ask hh ++ ([] : va_W)) := hD
    refine lv_iload_n hx hb dX5_allow_28 rfl (lv_at hl 0 rfl) ?_
    refine lv_istore_n (lv' := [(3, .int q1), (2, .int q1), (0, .ref (aM 0)), (1, .int p0)]) hx hb dX5_allow_29 rfl hl (by decide) rfl (fun ls hl => ?_)
    obtain ⟨q6, hq6, h⟩ := bd_s h
    have hX6_0 : ∀ (x6 : (Nat → Int32)) (H : Heap) (locs : List Loc) (ls : Array Slot), x6 = q6 → va_P G vwCl (wM cI cJ aM x6 q3.2.1 tab goa bes tic txt par q3.2.2 bwh bpr bse len mat ask hh ++ ([] : va_W)) H → va_D A (wM cI cJ aM x6 q3.2.1 tab goa bes tic txt par q3.2.2 bwh bpr bse len mat ask hh ++ ([] : va_W)) → va_S A s.heap H locs → lv_has ls 4 [(0, .ref (aM 0))] → W p l ev ({ frames := 2, cells := 0, slots := 0, locals := 44 } : Room) s m ([.ref (aM 0), .int p0] : List Value).toArray below meth c H locs 0 0 (MQ below (qI G (ty5 cI cJ cZ cO cA) A (wM cI cJ aM res.2.1 res.2.2.1 tab goa bes tic txt par res.2.2.2 bwh bpr bse len mat ask hh ++ ([] : va_W)) res.1) ([.ref (aM 0), .int p0] : List Value).toArray s 0 0 A) (F0 m 67 ls []) := by
      intro x6 H locs ls e6 hP hD hS hl
      replace e6 := e6.symm
      subst e6
      refine lv_aload_n hx hb dX5_allow_67 rfl (lv_at hl 0 rfl) ?_
      refine va_get (D := G) (ci := 5) (v := .ref (aM 1)) (C := RX5) (T := TX5) (N := 16) hx hb hts uX5 hown hK hP 0 rfl rfl 0 (by decide) (hts _ kw579) (fun _ h9 => h9) rfl dX5_allow_68 ?_
      refine lv_bipush (v := 59) hx hb dX5_allow_71 (by decide) ?_
      obtain ⟨g11, h⟩ := gd_s h
      refine va_iald hx hb hK hP 1 0 rfl rfl (ib_in g11) dX5_allow_73 ?_
      rw [← Option.some.inj h]
      exact kri hx hb hr hlk rfl rfl hP hD hS hK dX5_allow_74
    have hL6 : ∀ (n : Nat) (z6 : (Nat → Int32) × Int32) (H : Heap) (locs : List Loc) (ls : Array Slot), lp f_X5_allow_b30 n z6 = some q6 → va_P G vwCl (wM cI cJ aM z6.1 q3.2.1 tab goa bes tic txt par q3.2.2 bwh bpr bse len mat ask hh ++ ([] : va_W)) H → va_D A (wM cI cJ aM z6.1 q3.2.1 tab goa bes tic txt par q3.2.2 bwh bpr bse len mat ask hh ++ ([] : va_W)) → va_S A s.heap H locs → lv_has ls 4 [(0, .ref (aM 0)), (3, .int z6.2)] → W p l ev ({ frames := 2, cells := 0, slots := 0, locals := 44 } : Room) s m ([.ref (aM 0), .int p0] : List Value).toArray below meth c H locs 0 0 (MQ below (qI G (ty5 cI cJ cZ cO cA) A (wM cI cJ aM res.2.1 res.2.2.1 tab goa bes tic txt par res.2.2.2 bwh bpr bse len mat ask hh ++ ([] : va_W)) res.1) ([.ref (aM 0), .int p0] : List Value).toArray s 0 0 A) (F0 m 30 ls []) := by
      intro n
      induction n with
      | zero => intro z6 H locs ls h; cases h
      | succ n ih6 =>
        intro z6 H locs ls h hP hD hS hl
        obtain ⟨o6, h, h6⟩ := lp_s h
        unfold f_X5_allow_b30 at h
        refine lv_iload_n hx hb dX5_allow_30 rfl (lv_at hl 1 rfl) ?_
        refine lv_aload_n hx hb dX5_allow_31 rfl (lv_at hl 0 rfl) ?_
        refine va_get (D := G) (ci := 5) (v := .ref (aM 1)) (C := RX5) (T := TX5) (N := 16) hx hb hts uX5 hown hK hP 0 rfl rfl 0 (by decide) (hts _ kw579) (fun _ h9 => h9) rfl dX5_allow_32 ?_
        refine lv_bipush (v := 59) hx hb dX5_allow_35 (by decide) ?_
        obtain ⟨g7, h⟩ := gd_s h
        refine va_iald hx hb hK hP 1 0 rfl rfl (ib_in g7) dX5_allow_37 ?_
        refine lv_icmp_ge (tgt := 67) hx hb dX5_allow_38 (by decide) (fun c8 => ?_) (fun c8 => ?_)
        · replace h := (if_pos c8).symm.trans h
          rw [← Option.some.inj h] at h6
          exact hX6_0 z6.1 _ _ _ (lp_x h6) hP hD hS (lv_sub hl [0] rfl)
        · replace h := (if_neg c8).symm.trans h
          refine lv_aload_n hx hb dX5_allow_41 rfl (lv_at hl 0 rfl) ?_
          refine va_get (D := G) (ci := 5) (v := .ref (aM 1)) (C := RX5) (T := TX5) (N := 16) hx hb hts uX5 hown hK hP 0 rfl rfl 0 (by decide) (hts _ kw579) (fun _ h9 => h9) rfl dX5_allow_42 ?_
          refine lv_bipush (v := 60) hx hb dX5_allow_45 (by decide) ?_
          refine lv_iload_n hx hb dX5_allow_47 rfl (lv_at hl 1 rfl) ?_
          refine lv_iadd hx hb dX5_allow_48 ?_
          refine lv_aload_n hx hb dX5_allow_49 rfl (lv_at hl 0 rfl) ?_
          refine va_get (D := G) (ci := 5) (v := .ref (aM 1)) (C := RX5) (T := TX5) (N := 16) hx hb hts uX5 hown hK hP 0 rfl rfl 0 (by decide) (hts _ kw579) (fun _ h9 => h9) rfl dX5_allow_50 ?_
          refine lv_bipush (v := 60) hx hb dX5_allow_53 (by decide) ?_
          refine lv_iload_n hx hb dX5_allow_55 rfl (lv_at hl 1 rfl) ?_
          refine lv_iadd hx hb dX5_allow_56 ?_
          refine lv_iconst (v := 1) hx hb dX5_allow_57 (by decide) ?_
          refine lv_iadd hx hb dX5_allow_58 ?_
          obtain ⟨g9, h⟩ := gd_s h
          refine va_iald hx hb hK hP 1 0 rfl rfl (ib_in g9) dX5_allow_59 ?_
          obtain ⟨g10, h⟩ := gd_s h
          refine va_iast hx hb hK hP hD hS 1 0 rfl rfl (ib_in g10) dX5_allow_60 (fun H locs hP hD hS => ?_)
          have hP : va_P G vwCl (wM cI cJ aM (upd z6.1 (60 + z6.2).toNatClampNeg (z6.1 ((60 + z6.2) + 1).toNatClampNeg)) q3.2.1 tab goa bes tic txt par q3.2.2 bwh bpr bse len mat ask hh ++ ([] : va_W)) H := hP
          have hD : va_D A (wM cI cJ aM (upd z6.1 (60 + z6.2).toNatClampNeg (z6.1 ((60 + z6.2) + 1).toNatClampNeg)) q3.2.1 tab goa bes tic txt par q3.2.2 bwh bpr bse len mat ask hh ++ ([] : va_W)) := hD
          refine lv_iinc (v := (z6.2 + 1)) (lv' := [(3, .int (z6.2 + 1)), (0, .ref (aM 0))]) hx hb dX5_allow_61 hl (k := 1) rfl rfl (by decide) rfl (fun ls hl => ?_)
          refine lv_goto (tgt := 30) hx hb dX5_allow_64 (by decide) ?_
          rw [← Option.some.inj h] at h6
          exact ih6 ((upd z6.1 (60 + z6.2).toNatClampNeg (z6.1 ((60 + z6.2) + 1).toNatClampNeg)), (z6.2 + 1)) _ _ _ (lp_b h6) hP hD hS (lv_sub hl [1, 0] rfl)
    exact hL6 _ ((upd q3.1 (59 : Int32).toNatClampNeg ((q3.1 (59 : Int32).toNatClampNeg) - 1)), q1) _ _ _ hq6 hP hD hS (lv_sub hl [2, 0] rfl)
  · replace h := (if_neg c2).symm.trans h
    refine lv_ldc (v := (-2000000003)) hx hb hown (hts _ kw723) dX5_allow_10 ?_
    rw [← Option.some.inj h]
    exact kri hx hb hr hlk rfl rfl hP hD hS hK dX5_allow_12

/-! X5_isBad -/
def f_X5_isBad_j50 (v4 : Int32) (t0 : Int32) : Option ((Int32 × Int32) ⊕ (Int32)) :=
  some (Sum.inl (t0, (v4 + 1)))
def f_X5_isBad_j45 (v4 : Int32) : Option ((Int32 × Int32) ⊕ (Int32)) :=
  f_X5_isBad_j50 v4 1
def f_X5_isBad_b12 (row : Nat → Int32) (v3 : Int32) (z2 : Int32 × Int32) : Option ((Int32 × Int32) ⊕ (Int32)) :=
  gd (ib 59 708) (if (row (59 : Int32).toNatClampNeg) ≤ z2.2 then (some (Sum.inr z2.1)) else (if z2.1 = 0 then (gd (ib (60 + z2.2) 708) (if ((row (60 + z2.2).toNatClampNeg) &&& (v3 ^^^ (-1))) = 0 then (f_X5_isBad_j45 z2.2) else (f_X5_isBad_j50 z2.2 0))) else (f_X5_isBad_j45 z2.2)))
def f_X5_isBad (row : Nat → Int32) (p0 : Int32) : Option (Int32) :=
  (f_X5_running row).bind (fun q1 => (lp (f_X5_isBad_b12 row (p0 ||| q1)) 1000 (0, 0)).bind (fun q2 => gd (zb q2) (some q2)))

set_option maxHeartbeats 4000000 in
set_option maxRecDepth 100000 in
theorem c_X5_isBad (l : Launch) (G : va_G) (cI cJ cZ cO cA : ClassId) (e : Nat × Nat) (aM : Nat → Nat) (sz : Nat) (row : Nat → Int32) (tot : Nat → Int64) (tab : Nat → Int64) (goa : Nat → Int64) (bes : Nat → Int64) (tic : Nat → Int64) (txt : Nat → Int32) (par : Nat → Int32) (sav : Int32) (bwh : Int64) (bpr : Int64) (bse : Int32) (len : Int32) (mat : Int32) (ask : Int32) (hh : Int64) (p0 : Int32) {res : Int32} (hf : f_X5_isBad row p0 = some res) : MetI l yX5_isBad cX5_isBad 5 .boolean ({ frames := 4, cells := 0, slots := 0, locals := 86 } : Room) [.ref (aM 0), .int p0] G (ty5 cI cJ cZ cO cA) e (wM cI cJ aM row tot tab goa bes tic txt par sav bwh bpr bse len mat ask hh ++ ([] : va_W)) (wM cI cJ aM row tot tab goa bes tic txt par sav bwh bpr bse len mat ask hh ++ ([] : va_W)) sz res := by
  refine g_body (QQ := fun A => (qI G (ty5 cI cJ cZ cO cA) A (wM cI cJ aM row tot tab goa bes tic txt par sav bwh bpr bse len mat ask hh ++ ([] : va_W)) res)) (own := RX5) (by decide) rfl (Nat.le_of_ble_eq_true rfl) ?_
  intro p ev s m below meth c A ls hx hb hr hml hown hts hlk hA hP hD hS hK hE hl
  have hl : lv_has ls 5 [(0, .ref (aM 0)), (1, .int p0)] := hl
  show W p l ev ({ frames := 4, cells := 0, slots := 0, locals := 86 } : Room) s m ([.ref (aM 0), .int p0] : List Value).toArray below meth c s.heap [] 0 0 (MQ below (qI G (ty5 cI cJ cZ cO cA) A (wM cI cJ aM row tot tab goa bes tic txt par sav bwh bpr bse len mat ask hh ++ ([] : va_W)) res) ([.ref (aM 0), .int p0] : List Value).toArray s 0 0 A) (F0 m 0 ls [])
  have h := hf
  unfold f_X5_isBad at h
  refine lv_iconst (v := 0) hx hb dX5_isBad_0 (by decide) ?_
  refine lv_istore_n (lv' := [(2, .int 0), (0, .ref (aM 0)), (1, .int p0)]) hx hb dX5_isBad_1 rfl hl (by decide) rfl (fun ls hl => ?_)
  refine lv_iload_n hx hb dX5_isBad_2 rfl (lv_at hl 2 rfl) ?_
  refine lv_aload_n hx hb dX5_isBad_3 rfl (lv_at hl 1 rfl) ?_
  obtain ⟨q1, hq1, h⟩ := bd_s h
  refine kVi (n := 0) (C := RX5) (ws' := wM cI cJ aM row tot tab goa bes tic txt par sav bwh bpr bse len mat ask hh ++ ([] : va_W)) (As := []) (rest := [.int p0]) hx hb hml hown hts (c_X5_running l G cI cJ cZ cO cA e aM _ row tot tab goa bes tic txt par sav bwh bpr bse len mat ask hh hq1) (tb_V kw736 kw738 kv26 kw7 kw739) rfl rfl (by decide +kernel) ⟨Nat.le_of_ble_eq_true rfl, Nat.le_of_ble_eq_true rfl⟩ hK hP hD hS hA hE 0 rfl rfl [0, 1, 2, 3, 4, 5, 6, 7, 8] [] rfl rfl rfl 9 ⟨rfl, rfl⟩ (by decide +kernel) (by decide +kernel) rfl rfl hl.1 (Nat.le_of_ble_eq_true rfl) ⟨Nat.zero_le _, Nat.zero_le _⟩ dX5_isBad_4 (fun H locs hP hD hS => ?_)
  refine lv_ior hx hb dX5_isBad_7 ?_
  refine lv_istore_n (lv' := [(3, .int (p0 ||| q1)), (2, .int 0), (0, .ref (aM 0)), (1, .int p0)]) hx hb dX5_isBad_8 rfl hl (by decide) rfl (fun ls hl => ?_)
  refine lv_iconst (v := 0) hx hb dX5_isBad_9 (by decide) ?_
  refine lv_istore (lv' := [(4, .int 0), (3, .int (p0 ||| q1)), (2, .int 0), (0, .ref (aM 0)), (1, .int p0)]) hx hb dX5_isBad_10 hl (by decide) rfl (fun ls hl => ?_)
  obtain ⟨q2, hq2, h⟩ := bd_s h
  have hX2_0 : ∀ (x2 : Int32) (H : Heap) (locs : List Loc) (ls : Array Slot), x2 = q2 → va_P G vwCl (wM cI cJ aM row tot tab goa bes tic txt par sav bwh bpr bse len mat ask hh ++ ([] : va_W)) H → va_D A (wM cI cJ aM row tot tab goa bes tic txt par sav bwh bpr bse len mat ask hh ++ ([] : va_W)) → va_S A s.heap H locs → lv_has ls 5 [(2, .int x2)] → W p l ev ({ frames := 4, cells := 0, slots := 0, locals := 86 } : Room) s m ([.ref (aM 0), .int p0] : List Value).toArray below meth c H locs 0 0 (MQ below (qI G (ty5 cI cJ cZ cO cA) A (wM cI cJ aM row tot tab goa bes tic txt par sav bwh bpr bse len mat ask hh ++ ([] : va_W)) res) ([.ref (aM 0), .int p0] : List Value).toArray s 0 0 A) (F0 m 57 ls []) := by
    intro x2 H locs ls e2 hP hD hS hl
    replace e2 := e2.symm
    subst e2
    refine lv_iload_n hx hb dX5_isBad_57 rfl (lv_at hl 0 rfl) ?_
    obtain ⟨g10, h⟩ := gd_s h
    rw [← Option.some.inj h]
    exact kri hx hb hr hlk (zb_s g10) rfl hP hD hS hK dX5_isBad_58
  have hL2 : ∀ (n : Nat) (z2 : Int32 × Int32) (H : Heap) (locs : List Loc) (ls : Array Slot), lp (f_X5_isBad_b12 row (p0 ||| q1)) n z2 = some q2 → va_P G vwCl (wM cI cJ aM row tot tab goa bes tic txt par sav bwh bpr bse len mat ask hh ++ ([] : va_W)) H → va_D A (wM cI cJ aM row tot tab goa bes tic txt par sav bwh bpr bse len mat ask hh ++ ([] : va_W)) → va_S A s.heap H locs → lv_has ls 5 [(0, .ref (aM 0)), (2, .int z2.1), (3, .int (p0 ||| q1)), (4, .int z2.2)] → W p l ev ({ frames := 4, cells := 0, slots := 0, locals := 86 } : Room) s m ([.ref (aM 0), .int p0] : List Value).toArray below meth c H locs 0 0 (MQ below (qI G (ty5 cI cJ cZ cO cA) A (wM cI cJ aM row tot tab goa bes tic txt par sav bwh bpr bse len mat ask hh ++ ([] : va_W)) res) ([.ref (aM 0), .int p0] : List Value).toArray s 0 0 A) (F0 m 12 ls []) := by
    intro n
    induction n with
    | zero => intro z2 H locs ls h; cases h
    | succ n ih2 =>
      intro z2 H locs ls h hP hD hS hl
      obtain ⟨o2, h, h2⟩ := lp_s h
      unfold f_X5_isBad_b12 at h
      refine lv_iload hx hb dX5_isBad_12 (lv_at hl 3 rfl) ?_
      refine lv_aload_n hx hb dX5_isBad_14 rfl (lv_at hl 0 rfl) ?_
      refine va_get (D := G) (ci := 5) (v := .ref (aM 1)) (C := RX5) (T := TX5) (N := 16) hx hb hts uX5 hown hK hP 0 rfl rfl 0 (by decide) (hts _ kw579) (fun _ h9 => h9) rfl dX5_isBad_15 ?_
      refine lv_bipush (v := 59) hx hb dX5_isBad_18 (by decide) ?_
      obtain ⟨g3, h⟩ := gd_s h
      refine va_iald hx hb hK hP 1 0 rfl rfl (ib_in g3) dX5_isBad_20 ?_
      refine lv_icmp_ge (tgt := 57) hx hb dX5_isBad_21 (by decide) (fun c4 => ?_) (fun c4 => ?_)
      · replace h := (if_pos c4).symm.trans h
        rw [← Option.some.inj h] at h2
        exact hX2_0 z2.1 _ _ _ (lp_x h2) hP hD hS (lv_sub hl [1] rfl)
      · replace h := (if_neg c4).symm.trans h
        refine lv_iload_n hx hb dX5_isBad_24 rfl (lv_at hl 1 rfl) ?_
        have hJ6 : ∀ (v4_6 : Int32) (t0_6 : Int32) (H : Heap) (locs : List Loc) (ls : Array Slot), f_X5_isBad_j50 v4_6 t0_6 = some o2 → va_P G vwCl (wM cI cJ aM row tot tab goa bes tic txt par sav bwh bpr bse len mat ask hh ++ ([] : va_W)) H → va_D A (wM cI cJ aM row tot tab goa bes tic txt par sav bwh bpr bse len mat ask hh ++ ([] : va_W)) → va_S A s.heap H locs → lv_has ls 5 [(0, .ref (aM 0)), (3, .int (p0 ||| q1)), (4, .int v4_6)] → W p l ev ({ frames := 4, cells := 0, slots := 0, locals := 86 } : Room) s m ([.ref (aM 0), .int p0] : List Value).toArray below meth c H locs 0 0 (MQ below (qI G (ty5 cI cJ cZ cO cA) A (wM cI cJ aM row tot tab goa bes tic txt par sav bwh bpr bse len mat ask hh ++ ([] : va_W)) res) ([.ref (aM 0), .int p0] : List Value).toArray s 0 0 A) (F0 m 50 ls [.int t0_6]) := by
          intro v4_6 t0_6 H locs ls h hP hD hS hl
          unfold f_X5_isBad_j50 at h
          refine lv_istore_n (lv' := [(2, .int t0_6), (0, .ref (aM 0)), (3, .int (p0 ||| q1)), (4, .int v4_6)]) hx hb dX5_isBad_50 rfl hl (by decide) rfl (fun ls hl => ?_)
          refine lv_iinc (v := (v4_6 + 1)) (lv' := [(4, .int (v4_6 + 1)), (2, .int t0_6), (0, .ref (aM 0)), (3, .int (p0 ||| q1))]) hx hb dX5_isBad_51 hl (k := 3) rfl rfl (by decide) rfl (fun ls hl => ?_)
          refine lv_goto (tgt := 12) hx hb dX5_isBad_54 (by decide) ?_
          rw [← Option.some.inj h] at h2
          exact ih2 (t0_6, (v4_6 + 1)) _ _ _ (lp_b h2) hP hD hS (lv_sub hl [2, 1, 3, 0] rfl)
        have hJ7 : ∀ (v4_7 : Int32) (H : Heap) (locs : List Loc) (ls : Array Slot), f_X5_isBad_j45 v4_7 = some o2 → va_P G vwCl (wM cI cJ aM row tot tab goa bes tic txt par sav bwh bpr bse len mat ask hh ++ ([] : va_W)) H → va_D A (wM cI cJ aM row tot tab goa bes tic txt par sav bwh bpr bse len mat ask hh ++ ([] : va_W)) → va_S A s.heap H locs → lv_has ls 5 [(0, .ref (aM 0)), (3, .int (p0 ||| q1)), (4, .int v4_7)] → W p l ev ({ frames := 4, cells := 0, slots := 0, locals := 86 } : Room) s m ([.ref (aM 0), .int p0] : List Value).toArray below meth c H locs 0 0 (MQ below (qI G (ty5 cI cJ cZ cO cA) A (wM cI cJ aM row tot tab goa bes tic txt par sav bwh bpr bse len mat ask hh ++ ([] : va_W)) res) ([.ref (aM 0), .int p0] : List Value).toArray s 0 0 A) (F0 m 45 ls []) := by
          intro v4_7 H locs ls h hP hD hS hl
          unfold f_X5_isBad_j45 at h
          refine lv_iconst (v := 1) hx hb dX5_isBad_45 (by decide) ?_
          refine lv_goto (tgt := 50) hx hb dX5_isBad_46 (by decide) ?_
          exact hJ6 v4_7 1 _ _ _ h hP hD hS (lv_sub hl [0, 1, 2] rfl)
        refine lv_if_ne (tgt := 45) hx hb dX5_isBad_25 (by decide) (fun c5 => ?_) (fun c5 => ?_)
        · replace h := (if_neg c5).symm.trans h
          exact hJ7 z2.2 _ _ _ h hP hD hS (lv_sub hl [0, 2, 3] rfl)
        · replace h := (if_pos c5).symm.trans h
          refine lv_aload_n hx hb dX5_isBad_28 rfl (lv_at hl 0 rfl) ?_
          refine va_get (D := G) (ci := 5) (v := .ref (aM 1)) (C := RX5) (T := TX5) (N := 16) hx hb hts uX5 hown hK hP 0 rfl rfl 0 (by decide) (hts _ kw579) (fun _ h9 => h9) rfl dX5_isBad_29 ?_
          refine lv_bipush (v := 60) hx hb dX5_isBad_32 (by decide) ?_
          refine lv_iload hx hb dX5_isBad_34 (lv_at hl 3 rfl) ?_
          refine lv_iadd hx hb dX5_isBad_36 ?_
          obtain ⟨g8, h⟩ := gd_s h
          refine va_iald hx hb hK hP 1 0 rfl rfl (ib_in g8) dX5_isBad_37 ?_
          refine lv_iload_n hx hb dX5_isBad_38 rfl (lv_at hl 2 rfl) ?_
          refine lv_iconst (v := (-1)) hx hb dX5_isBad_39 (by decide) ?_
          refine lv_ixor hx hb dX5_isBad_40 ?_
          refine lv_iand hx hb dX5_isBad_41 ?_
          refine lv_if_ne (tgt := 49) hx hb dX5_isBad_42 (by decide) (fun c9 => ?_) (fun c9 => ?_)
          · replace h := (if_neg c9).symm.trans h
            refine lv_iconst (v := 0) hx hb dX5_isBad_49 (by decide) ?_
            exact hJ6 z2.2 0 _ _ _ h hP hD hS (lv_sub hl [0, 2, 3] rfl)
          · replace h := (if_pos c9).symm.trans h
            exact hJ7 z2.2 _ _ _ h hP hD hS (lv_sub hl [0, 2, 3] rfl)
  exact hL2 _ (0, 0) _ _ _ hq2 hP hD hS (lv_sub hl [3, 2, 1, 0] rfl)

/-! X5_isForbidden -/
def f_X5_isForbidden (row : Nat → Int32) (p0 : Int32) : Option (Int32) :=
  (f_X5_in p0 0 255).bind (fun q1 => if q1 = 0 then (some (-2000000002)) else ((f_X5_isBad row p0).bind (fun q3 => if q3 = 0 then (some 0) else (some 1))))

set_option maxHeartbeats 4000000 in
set_option maxRecDepth 100000 in
theorem c_X5_isForbidden (l : Launch) (G : va_G) (cI cJ cZ cO cA : ClassId) (e : Nat × Nat) (aM : Nat → Nat) (sz : Nat) (row : Nat → Int32) (tot : Nat → Int64) (tab : Nat → Int64) (goa : Nat → Int64) (bes : Nat → Int64) (tic : Nat → Int64) (txt : Nat → Int32) (par : Nat → Int32) (sav : Int32) (bwh : Int64) (bpr : Int64) (bse : Int32) (len : Int32) (mat : Int32) (ask : Int32) (hh : Int64) (p0 : Int32) {res : Int32} (hf : f_X5_isForbidden row p0 = some res) : MetI l yX5_isForbidden cX5_isForbidden 2 .int ({ frames := 5, cells := 0, slots := 0, locals := 110 } : Room) [.ref (aM 0), .int p0] G (ty5 cI cJ cZ cO cA) e (wM cI cJ aM row tot tab goa bes tic txt par sav bwh bpr bse len mat ask hh ++ ([] : va_W)) (wM cI cJ aM row tot tab goa bes tic txt par sav bwh bpr bse len mat ask hh ++ ([] : va_W)) sz res := by
  refine g_body (QQ := fun A => (qI G (ty5 cI cJ cZ cO cA) A (wM cI cJ aM row tot tab goa bes tic txt par sav bwh bpr bse len mat ask hh ++ ([] : va_W)) res)) (own := RX5) (by decide) rfl (Nat.le_of_ble_eq_true rfl) ?_
  intro p ev s m below meth c A ls hx hb hr hml hown hts hlk hA hP hD hS hK hE hl
  have hl : lv_has ls 2 [(0, .ref (aM 0)), (1, .int p0)] := hl
  show W p l ev ({ frames := 5, cells := 0, slots := 0, locals := 110 } : Room) s m ([.ref (aM 0), .int p0] : List Value).toArray below meth c s.heap [] 0 0 (MQ below (qI G (ty5 cI cJ cZ cO cA) A (wM cI cJ aM row tot tab goa bes tic txt par sav bwh bpr bse len mat ask hh ++ ([] : va_W)) res) ([.ref (aM 0), .int p0] : List Value).toArray s 0 0 A) (F0 m 0 ls [])
  have h := hf
  unfold f_X5_isForbidden at h
  refine lv_iload_n hx hb dX5_isForbidden_0 rfl (lv_at hl 1 rfl) ?_
  refine lv_iconst (v := 0) hx hb dX5_isForbidden_1 (by decide) ?_
  refine lv_sipush (v := 255) hx hb dX5_isForbidden_2 (by decide) ?_
  obtain ⟨q1, hq1, h⟩ := bd_s h
  refine kSi (n := 3) (As := [.int p0, .int 0, .int 255]) (rest := []) hx hb hml hown hts (c_X5_in l G cI cJ cZ cO cA e _ p0 0 255 hq1) (tb_S kw635 kw636 kw7 kw637) rfl rfl (by decide +kernel) ⟨Nat.le_of_ble_eq_true rfl, Nat.le_of_ble_eq_true rfl⟩ hK hP hD hS hA hE rfl rfl hl.1 (Nat.le_of_ble_eq_true rfl) ⟨Nat.zero_le _, Nat.zero_le _⟩ dX5_isForbidden_5 (fun H locs hP hD hS => ?_)
  refine lv_if_ne (tgt := 16) hx hb dX5_isForbidden_8 (by decide) (fun c2 => ?_) (fun c2 => ?_)
  · replace h := (if_neg c2).symm.trans h
    refine lv_aload_n hx hb dX5_isForbidden_16 rfl (lv_at hl 0 rfl) ?_
    refine lv_iload_n hx hb dX5_isForbidden_17 rfl (lv_at hl 1 rfl) ?_
    obtain ⟨q3, hq3, h⟩ := bd_s h
    refine kVi (n := 1) (C := RX5) (ws' := wM cI cJ aM row tot tab goa bes tic txt par sav bwh bpr bse len mat ask hh ++ ([] : va_W)) (As := [.int p0]) (rest := []) hx hb hml hown hts (c_X5_isBad l G cI cJ cZ cO cA e aM _ row tot tab goa bes tic txt par sav bwh bpr bse len mat ask hh p0 hq3) (tb_V kw732 kw734 kv25 kw7 kw735) rfl rfl (by decide +kernel) ⟨Nat.le_of_ble_eq_true rfl, Nat.le_of_ble_eq_true rfl⟩ hK hP hD hS hA hE 0 rfl rfl [0, 1, 2, 3, 4, 5, 6, 7, 8] [] rfl rfl rfl 9 ⟨rfl, rfl⟩ (by decide +kernel) (by decide +kernel) rfl rfl hl.1 (Nat.le_of_ble_eq_true rfl) ⟨Nat.zero_le _, Nat.zero_le _⟩ dX5_isForbidden_18 (fun H locs hP hD hS => ?_)
    refine lv_if_eq (tgt := 28) hx hb dX5_isForbidden_21 (by decide) (fun c4 => ?_) (fun c4 => ?_)
    · replace h := (if_pos c4).symm.trans h
      refine lv_iconst (v := 0) hx hb dX5_isForbidden_28 (by decide) ?_
      rw [← Option.some.inj h]
      exact kri hx hb hr hlk rfl rfl hP hD hS hK dX5_isForbidden_29
    · replace h := (if_neg c4).symm.trans h
      refine lv_iconst (v := 1) hx hb dX5_isForbidden_24 (by decide) ?_
      refine lv_goto (tgt := 29) hx hb dX5_isForbidden_25 (by decide) ?_
      rw [← Option.some.inj h]
      exact kri hx hb hr hlk rfl rfl hP hD hS hK dX5_isForbidden_29
  · replace h := (if_pos c2).symm.trans h
    refine lv_ldc (v := (-2000000002)) hx hb hown (hts _ kw639) dX5_isForbidden_11 ?_
    refine lv_goto (tgt := 29) hx hb dX5_isForbidden_13 (by decide) ?_
    rw [← Option.some.inj h]
    exact kri hx hb hr hlk rfl rfl hP hD hS hK dX5_isForbidden_29

/-! X5_aims -/
def f_X5_aims (goa : Nat → Int64) (p0 : Int32) (p1 : Int32) (p2 : Int32) : Option ((Nat → Int64)) :=
  gd (ib 0 3) (gd (ib 1 3) (gd (ib 2 3) (some (vp_updL (vp_updL (vp_updL goa (0 : Int32).toNatClampNeg p0.toInt64) (1 : Int32).toNatClampNeg p1.toInt64) (2 : Int32).toNatClampNeg p2.toInt64))))

set_option maxHeartbeats 4000000 in
set_option maxRecDepth 100000 in
theorem c_X5_aims (l : Launch) (G : va_G) (cI cJ cZ cO cA : ClassId) (e : Nat × Nat) (aM : Nat → Nat) (sz : Nat) (row : Nat → Int32) (tot : Nat → Int64) (tab : Nat → Int64) (goa : Nat → Int64) (bes : Nat → Int64) (tic : Nat → Int64) (txt : Nat → Int32) (par : Nat → Int32) (sav : Int32) (bwh : Int64) (bpr : Int64) (bse : Int32) (len : Int32) (mat : Int32) (ask : Int32) (hh : Int64) (p0 : Int32) (p1 : Int32) (p2 : Int32) {res : (Nat → Int64)} (hf : f_X5_aims goa p0 p1 p2 = some res) : MetV l yX5_aims cX5_aims 4 ({ frames := 0, cells := 0, slots := 0, locals := 0 } : Room) [.ref (aM 0), .int p0, .int p1, .int p2] G (ty5 cI cJ cZ cO cA) e (wM cI cJ aM row tot tab goa bes tic txt par sav bwh bpr bse len mat ask hh ++ ([] : va_W)) (wM cI cJ aM row tot tab res bes tic txt par sav bwh bpr bse len mat ask hh ++ ([] : va_W)) sz := by
  refine g_body (QQ := fun A => (qV G (ty5 cI cJ cZ cO cA) A (wM cI cJ aM row tot tab res bes tic txt par sav bwh bpr bse len mat ask hh ++ ([] : va_W)))) (own := RX5) (by decide) rfl (Nat.le_of_ble_eq_true rfl) ?_
  intro p ev s m below meth c A ls hx hb hr hml hown hts hlk hA hP hD hS hK hE hl
  have hl : lv_has ls 4 [(0, .ref (aM 0)), (1, .int p0), (2, .int p1), (3, .int p2)] := hl
  show W p l ev ({ frames := 0, cells := 0, slots := 0, locals := 0 } : Room) s m ([.ref (aM 0), .int p0, .int p1, .int p2] : List Value).toArray below meth c s.heap [] 0 0 (MQ below (qV G (ty5 cI cJ cZ cO cA) A (wM cI cJ aM row tot tab res bes tic txt par sav bwh bpr bse len mat ask hh ++ ([] : va_W))) ([.ref (aM 0), .int p0, .int p1, .int p2] : List Value).toArray s 0 0 A) (F0 m 0 ls [])
  have h := hf
  unfold f_X5_aims at h
  refine lv_aload_n hx hb dX5_aims_0 rfl (lv_at hl 0 rfl) ?_
  refine va_get (D := G) (ci := 5) (v := .ref (aM 4)) (C := RX5) (T := TX5) (N := 16) hx hb hts uX5 hown hK hP 0 rfl rfl 4 (by decide) (hts _ kw583) (fun _ h9 => h9) rfl dX5_aims_1 ?_
  refine lv_iconst (v := 0) hx hb dX5_aims_4 (by decide) ?_
  refine lv_iload_n hx hb dX5_aims_5 rfl (lv_at hl 1 rfl) ?_
  refine lv_i2l (v := p0.toInt64) hx hb dX5_aims_6 rfl ?_
  obtain ⟨g1, h⟩ := gd_s h
  refine va_last hx hb hK hP hD hS 4 1 rfl rfl (ib_in g1) dX5_aims_7 (fun H locs hP hD hS => ?_)
  have hP : va_P G vwCl (wM cI cJ aM row tot tab (vp_updL goa (0 : Int32).toNatClampNeg p0.toInt64) bes tic txt par sav bwh bpr bse len mat ask hh ++ ([] : va_W)) H := hP
  have hD : va_D A (wM cI cJ aM row tot tab (vp_updL goa (0 : Int32).toNatClampNeg p0.toInt64) bes tic txt par sav bwh bpr bse len mat ask hh ++ ([] : va_W)) := hD
  refine lv_aload_n hx hb dX5_aims_8 rfl (lv_at hl 0 rfl) ?_
  refine va_get (D := G) (ci := 5) (v := .ref (aM 4)) (C := RX5) (T := TX5) (N := 16) hx hb hts uX5 hown hK hP 0 rfl rfl 4 (by decide) (hts _ kw583) (fun _ h9 => h9) rfl dX5_aims_9 ?_
  refine lv_iconst (v := 1) hx hb dX5_aims_12 (by decide) ?_
  refine lv_iload_n hx hb dX5_aims_13 rfl (lv_at hl 2 rfl) ?_
  refine lv_i2l (v := p1.toInt64) hx hb dX5_aims_14 rfl ?_
  obtain ⟨g2, h⟩ := gd_s h
  refine va_last hx hb hK hP hD hS 4 1 rfl rfl (ib_in g2) dX5_aims_15 (fun H locs hP hD hS => ?_)
  have hP : va_P G vwCl (wM cI cJ aM row tot tab (vp_updL (vp_updL goa (0 : Int32).toNatClampNeg p0.toInt64) (1 : Int32).toNatClampNeg p1.toInt64) bes tic txt par sav bwh bpr bse len mat ask hh ++ ([] : va_W)) H := hP
  have hD : va_D A (wM cI cJ aM row tot tab (vp_updL (vp_updL goa (0 : Int32).toNatClampNeg p0.toInt64) (1 : Int32).toNatClampNeg p1.toInt64) bes tic txt par sav bwh bpr bse len mat ask hh ++ ([] : va_W)) := hD
  refine lv_aload_n hx hb dX5_aims_16 rfl (lv_at hl 0 rfl) ?_
  refine va_get (D := G) (ci := 5) (v := .ref (aM 4)) (C := RX5) (T := TX5) (N := 16) hx hb hts uX5 hown hK hP 0 rfl rfl 4 (by decide) (hts _ kw583) (fun _ h9 => h9) rfl dX5_aims_17 ?_
  refine lv_iconst (v := 2) hx hb dX5_aims_20 (by decide) ?_
  refine lv_iload_n hx hb dX5_aims_21 rfl (lv_at hl 3 rfl) ?_
  refine lv_i2l (v := p2.toInt64) hx hb dX5_aims_22 rfl ?_
  obtain ⟨g3, h⟩ := gd_s h
  refine va_last hx hb hK hP hD hS 4 1 rfl rfl (ib_in g3) dX5_aims_23 (fun H locs hP hD hS => ?_)
  have hP : va_P G vwCl (wM cI cJ aM row tot tab (vp_updL (vp_updL (vp_updL goa (0 : Int32).toNatClampNeg p0.toInt64) (1 : Int32).toNatClampNeg p1.toInt64) (2 : Int32).toNatClampNeg p2.toInt64) bes tic txt par sav bwh bpr bse len mat ask hh ++ ([] : va_W)) H := hP
  have hD : va_D A (wM cI cJ aM row tot tab (vp_updL (vp_updL (vp_updL goa (0 : Int32).toNatClampNeg p0.toInt64) (1 : Int32).toNatClampNeg p1.toInt64) (2 : Int32).toNatClampNeg p2.toInt64) bes tic txt par sav bwh bpr bse len mat ask hh ++ ([] : va_W)) := hD
  rw [← Option.some.inj h]
  exact krv hx hb hr hlk hP hD hS hK dX5_aims_24

/-! X5_dear -/
def f_X5_dear (row : Nat → Int32) (p0 : Int32) : Option (Int32) :=
  (f_X5_of row p0 4).bind (fun q1 => gd (ib (57 + q1) 708) ((f_X5_of row p0 4).bind (fun q3 => gd (ib (58 - q3) 708) (if (row (58 - q3).toNatClampNeg) ≤ (row (57 + q1).toNatClampNeg) then (some 1) else (some 2)))))

set_option maxHeartbeats 4000000 in
set_option maxRecDepth 100000 in
theorem c_X5_dear (l : Launch) (G : va_G) (cI cJ cZ cO cA : ClassId) (e : Nat × Nat) (aM : Nat → Nat) (sz : Nat) (row : Nat → Int32) (tot : Nat → Int64) (tab : Nat → Int64) (goa : Nat → Int64) (bes : Nat → Int64) (tic : Nat → Int64) (txt : Nat → Int32) (par : Nat → Int32) (sav : Int32) (bwh : Int64) (bpr : Int64) (bse : Int32) (len : Int32) (mat : Int32) (ask : Int32) (hh : Int64) (p0 : Int32) {res : Int32} (hf : f_X5_dear row p0 = some res) : MetI l yX5_dear cX5_dear 2 .int ({ frames := 1, cells := 0, slots := 0, locals := 22 } : Room) [.ref (aM 0), .int p0] G (ty5 cI cJ cZ cO cA) e (wM cI cJ aM row tot tab goa bes tic txt par sav bwh bpr bse len mat ask hh ++ ([] : va_W)) (wM cI cJ aM row tot tab goa bes tic txt par sav bwh bpr bse len mat ask hh ++ ([] : va_W)) sz res := by
  refine g_body (QQ := fun A => (qI G (ty5 cI cJ cZ cO cA) A (wM cI cJ aM row tot tab goa bes tic txt par sav bwh bpr bse len mat ask hh ++ ([] : va_W)) res)) (own := RX5) (by decide) rfl (Nat.le_of_ble_eq_true rfl) ?_
  intro p ev s m below meth c A ls hx hb hr hml hown hts hlk hA hP hD hS hK hE hl
  have hl : lv_has ls 2 [(0, .ref (aM 0)), (1, .int p0)] := hl
  show W p l ev ({ frames := 1, cells := 0, slots := 0, locals := 22 } : Room) s m ([.ref (aM 0), .int p0] : List Value).toArray below meth c s.heap [] 0 0 (MQ below (qI G (ty5 cI cJ cZ cO cA) A (wM cI cJ aM row tot tab goa bes tic txt par sav bwh bpr bse len mat ask hh ++ ([] : va_W)) res) ([.ref (aM 0), .int p0] : List Value).toArray s 0 0 A) (F0 m 0 ls [])
  have h := hf
  unfold f_X5_dear at h
  refine lv_aload_n hx hb dX5_dear_0 rfl (lv_at hl 0 rfl) ?_
  refine va_get (D := G) (ci := 5) (v := .ref (aM 1)) (C := RX5) (T := TX5) (N := 16) hx hb hts uX5 hown hK hP 0 rfl rfl 0 (by decide) (hts _ kw579) (fun _ h9 => h9) rfl dX5_dear_1 ?_
  refine lv_bipush (v := 57) hx hb dX5_dear_4 (by decide) ?_
  refine lv_aload_n hx hb dX5_dear_6 rfl (lv_at hl 0 rfl) ?_
  refine lv_iload_n hx hb dX5_dear_7 rfl (lv_at hl 1 rfl) ?_
  refine lv_iconst (v := 4) hx hb dX5_dear_8 (by decide) ?_
  obtain ⟨q1, hq1, h⟩ := bd_s h
  refine kVi (n := 2) (C := RX5) (ws' := wM cI cJ aM row tot tab goa bes tic txt par sav bwh bpr bse len mat ask hh ++ ([] : va_W)) (As := [.int p0, .int 4]) (rest := [.int 57, .ref (aM 1)]) hx hb hml hown hts (c_X5_of l G cI cJ cZ cO cA e aM _ row tot tab goa bes tic txt par sav bwh bpr bse len mat ask hh p0 4 hq1) (tb_V kw657 kw659 kv17 kw7 kw660) rfl rfl (by decide +kernel) ⟨Nat.le_of_ble_eq_true rfl, Nat.le_of_ble_eq_true rfl⟩ hK hP hD hS hA hE 0 rfl rfl [0, 1, 2, 3, 4, 5, 6, 7, 8] [] rfl rfl rfl 9 ⟨rfl, rfl⟩ (by decide +kernel) (by decide +kernel) rfl rfl hl.1 (Nat.le_of_ble_eq_true rfl) ⟨Nat.zero_le _, Nat.zero_le _⟩ dX5_dear_9 (fun H locs hP hD hS => ?_)
  refine lv_iadd hx hb dX5_dear_12 ?_
  obtain ⟨g2, h⟩ := gd_s h
  refine va_iald hx hb hK hP 1 0 rfl rfl (ib_in g2) dX5_dear_13 ?_
  refine lv_aload_n hx hb dX5_dear_14 rfl (lv_at hl 0 rfl) ?_
  refine va_get (D := G) (ci := 5) (v := .ref (aM 1)) (C := RX5) (T := TX5) (N := 16) hx hb hts uX5 hown hK hP 0 rfl rfl 0 (by decide) (hts _ kw579) (fun _ h9 => h9) rfl dX5_dear_15 ?_
  refine lv_bipush (v := 58) hx hb dX5_dear_18 (by decide) ?_
  refine lv_aload_n hx hb dX5_dear_20 rfl (lv_at hl 0 rfl) ?_
  refine lv_iload_n hx hb dX5_dear_21 rfl (lv_at hl 1 rfl) ?_
  refine lv_iconst (v := 4) hx hb dX5_dear_22 (by decide) ?_
  obtain ⟨q3, hq3, h⟩ := bd_s h
  refine kVi (n := 2) (C := RX5) (ws' := wM cI cJ aM row tot tab goa bes tic txt par sav bwh bpr bse len mat ask hh ++ ([] : va_W)) (As := [.int p0, .int 4]) (rest := [.int 58, .ref (aM 1), .int (row (57 + q1).toNatClampNeg)]) hx hb hml hown hts (c_X5_of l G cI cJ cZ cO cA e aM _ row tot tab goa bes tic txt par sav bwh bpr bse len mat ask hh p0 4 hq3) (tb_V kw657 kw659 kv17 kw7 kw660) rfl rfl (by decide +kernel) ⟨Nat.le_of_ble_eq_true rfl, Nat.le_of_ble_eq_true rfl⟩ hK hP hD hS hA hE 0 rfl rfl [0, 1, 2, 3, 4, 5, 6, 7, 8] [] rfl rfl rfl 9 ⟨rfl, rfl⟩ (by decide +kernel) (by decide +kernel) rfl rfl hl.1 (Nat.le_of_ble_eq_true rfl) ⟨Nat.zero_le _, Nat.zero_le _⟩ dX5_dear_23 (fun H locs hP hD hS => ?_)
  refine lv_isub hx hb dX5_dear_26 ?_
  obtain ⟨g4, h⟩ := gd_s h
  refine va_iald hx hb hK hP 1 0 rfl rfl (ib_in g4) dX5_dear_27 ?_
  refine lv_icmp_ge (tgt := 35) hx hb dX5_dear_28 (by decide) (fun c5 => ?_) (fun c5 => ?_)
  · replace h := (if_pos c5).symm.trans h
    refine lv_iconst (v := 1) hx hb dX5_dear_35 (by decide) ?_
    rw [← Option.some.inj h]
    exact kri hx hb hr hlk rfl rfl hP hD hS hK dX5_dear_36
  · replace h := (if_neg c5).symm.trans h
    refine lv_iconst (v := 2) hx hb dX5_dear_31 (by decide) ?_
    refine lv_goto (tgt := 36) hx hb dX5_dear_32 (by decide) ?_
    rw [← Option.some.inj h]
    exact kri hx hb hr hlk rfl rfl hP hD hS hK dX5_dear_36

/-! X5_member -/
def f_X5_member (p0 : Int32) (p1 : Int32) (p2 : Int32) (p3 : Int32) : Option (Int32) :=
  if p3 = 0 then (some p0) else (if p3 = 1 then (some p1) else (some p2))

set_option maxHeartbeats 4000000 in
set_option maxRecDepth 100000 in
theorem c_X5_member (l : Launch) (G : va_G) (cI cJ cZ cO cA : ClassId) (e : Nat × Nat) (sz : Nat) (p0 : Int32) (p1 : Int32) (p2 : Int32) (p3 : Int32) {res : Int32} (hf : f_X5_member p0 p1 p2 p3 = some res) : MetI l yX5_member cX5_member 4 .int ({ frames := 0, cells := 0, slots := 0, locals := 0 } : Room) [.int p0, .int p1, .int p2, .int p3] G (ty5 cI cJ cZ cO cA) e (([] : va_W)) (([] : va_W)) sz res := by
  refine g_body (QQ := fun A => (qI G (ty5 cI cJ cZ cO cA) A (([] : va_W)) res)) (own := RX5) (by decide) rfl (Nat.le_of_ble_eq_true rfl) ?_
  intro p ev s m below meth c A ls hx hb hr hml hown hts hlk hA hP hD hS hK hE hl
  have hl : lv_has ls 4 [(0, .int p0), (1, .int p1), (2, .int p2), (3, .int p3)] := hl
  show W p l ev ({ frames := 0, cells := 0, slots := 0, locals := 0 } : Room) s m ([.int p0, .int p1, .int p2, .int p3] : List Value).toArray below meth c s.heap [] 0 0 (MQ below (qI G (ty5 cI cJ cZ cO cA) A (([] : va_W)) res) ([.int p0, .int p1, .int p2, .int p3] : List Value).toArray s 0 0 A) (F0 m 0 ls [])
  have h := hf
  unfold f_X5_member at h
  refine lv_iload_n hx hb dX5_member_0 rfl (lv_at hl 3 rfl) ?_
  refine lv_if_ne (tgt := 8) hx hb dX5_member_1 (by decide) (fun c1 => ?_) (fun c1 => ?_)
  · replace h := (if_neg c1).symm.trans h
    refine lv_iload_n hx hb dX5_member_8 rfl (lv_at hl 3 rfl) ?_
    refine lv_iconst (v := 1) hx hb dX5_member_9 (by decide) ?_
    refine lv_icmp_ne (tgt := 17) hx hb dX5_member_10 (by decide) (fun c2 => ?_) (fun c2 => ?_)
    · replace h := (if_neg c2).symm.trans h
      refine lv_iload_n hx hb dX5_member_17 rfl (lv_at hl 2 rfl) ?_
      rw [← Option.some.inj h]
      exact kri hx hb hr hlk rfl rfl hP hD hS hK dX5_member_18
    · replace h := (if_pos c2).symm.trans h
      refine lv_iload_n hx hb dX5_member_13 rfl (lv_at hl 1 rfl) ?_
      refine lv_goto (tgt := 18) hx hb dX5_member_14 (by decide) ?_
      rw [← Option.some.inj h]
      exact kri hx hb hr hlk rfl rfl hP hD hS hK dX5_member_18
  · replace h := (if_pos c1).symm.trans h
    refine lv_iload_n hx hb dX5_member_4 rfl (lv_at hl 0 rfl) ?_
    refine lv_goto (tgt := 18) hx hb dX5_member_5 (by decide) ?_
    rw [← Option.some.inj h]
    exact kri hx hb hr hlk rfl rfl hP hD hS hK dX5_member_18

/-! X5_looksAt -/
def f_X5_looksAt_b15 (row : Nat → Int32) (v1 : Int32) (v2 : Int32) (v3 : Int32) (z3 : (Nat → Int64) × Int32) : Option (((Nat → Int64) × Int32) ⊕ ((Nat → Int64))) :=
  if 3 ≤ z3.2 then (some (Sum.inr z3.1)) else ((f_X5_member v1 v2 v3 z3.2).bind (fun q5 => (f_X5_lays row z3.1 z3.2 q5).bind (fun q6 => some (Sum.inl (q6, (z3.2 + 1))))))
def f_X5_looksAt_b44 (goa : Nat → Int64) (v6 : Int32) (z7 : (Nat → Int64) × Int32) : Option (((Nat → Int64) × Int32) ⊕ ((Nat → Int64))) :=
  if 3 ≤ z7.2 then (some (Sum.inr z7.1)) else (if v6 < 0 then (some (Sum.inr z7.1)) else (gd (ib z7.2 3) (gd (ib ((3 * z7.2) + v6) 9) (some (Sum.inl ((vp_updL z7.1 ((3 * z7.2) + v6).toNatClampNeg (goa z7.2.toNatClampNeg)), (z7.2 + 1)))))))
def f_X5_looksAt_j98 (tab : Nat → Int64) (tic : Nat → Int64) (v6 : Int32) (v7 : Int64) (t0 : Int64) : Option (((Nat → Int64) × (Nat → Int64) × Int64 × Int32) ⊕ ((Nat → Int64) × (Nat → Int64) × Int64)) :=
  if v6 < 0 then (some (Sum.inl (tab, tic, t0, (v6 + 1)))) else (gd (ib v6 3) (some (Sum.inl (tab, (vp_updL tic v6.toNatClampNeg v7), t0, (v6 + 1)))))
def f_X5_looksAt_b6 (row : Nat → Int32) (goa : Nat → Int64) (v1 : Int32) (v2 : Int32) (v3 : Int32) (z1 : (Nat → Int64) × (Nat → Int64) × Int64 × Int32) : Option (((Nat → Int64) × (Nat → Int64) × Int64 × Int32) ⊕ ((Nat → Int64) × (Nat → Int64) × Int64)) :=
  if 3 ≤ z1.2.2.2 then (some (Sum.inr (z1.1, z1.2.1, z1.2.2.1))) else ((lp (f_X5_looksAt_b15 row v1 v2 v3) 1000 (z1.1, 0)).bind (fun q3 => (lp (f_X5_looksAt_b44 goa z1.2.2.2) 1000 (q3, 0)).bind (fun q7 => (f_X5_determined q7).bind (fun q12 => if 0 ≤ z1.2.2.2 then (f_X5_looksAt_j98 q7 z1.2.1 z1.2.2.2 q12 z1.2.2.1) else (f_X5_looksAt_j98 q7 z1.2.1 z1.2.2.2 q12 q12)))))
def f_X5_looksAt_j264 (row : Nat → Int32) (tic : Nat → Int64) (v7 : Int64) (v9 : Int32) (v10 : Int32) (v11 : Int32) (t0 : Int32) (t1 : Int32) : Option (((Nat → Int64) × Int32 × Int64 × Int32 × Int32) ⊕ ((Nat → Int64) × Int32 × Int64 × Int32)) :=
  gd (ib v10 3) ((f_X5_of row v11 3).bind (fun q30 => (f_X5_dear row v11).bind (fun q31 => some (Sum.inl (tic, (t1 ||| t0), (v7 + (((tic v10.toNatClampNeg) * q30.toInt64) * q31.toInt64)), v9, (v10 + 1))))))
def f_X5_looksAt_j240 (row : Nat → Int32) (tic : Nat → Int64) (v6 : Int32) (v7 : Int64) (v10 : Int32) (v11 : Int32) (t0 : Int32) : Option (((Nat → Int64) × Int32 × Int64 × Int32 × Int32) ⊕ ((Nat → Int64) × Int32 × Int64 × Int32)) :=
  gd (ib v10 3) (if (lg_cmp (tic v10.toNatClampNeg) 0) ≤ 0 then (f_X5_looksAt_j264 row tic v7 t0 v10 v11 0 v6) else (f_X5_looksAt_j264 row tic v7 t0 v10 v11 (1 <<< (v11 &&& 31)) v6))
def f_X5_looksAt_j239 (row : Nat → Int32) (tic : Nat → Int64) (v6 : Int32) (v7 : Int64) (v10 : Int32) (v11 : Int32) : Option (((Nat → Int64) × Int32 × Int64 × Int32 × Int32) ⊕ ((Nat → Int64) × Int32 × Int64 × Int32)) :=
  f_X5_looksAt_j240 row tic v6 v7 v10 v11 0
def f_X5_looksAt_j230 (row : Nat → Int32) (tic : Nat → Int64) (v6 : Int32) (v7 : Int64) (v10 : Int32) (v11 : Int32) (t0 : Int64) (t1 : Int64) (t2 : Int64) : Option (((Nat → Int64) × Int32 × Int64 × Int32 × Int32) ⊕ ((Nat → Int64) × Int32 × Int64 × Int32)) :=
  if 0 < (lg_cmp t2 (t1 * t0)) then (f_X5_looksAt_j239 row tic v6 v7 v10 v11) else (f_X5_looksAt_j240 row tic v6 v7 v10 v11 1)
def f_X5_looksAt_j187 (row : Nat → Int32) (tic : Nat → Int64) (v4 : Int64) (v6 : Int32) (v7 : Int64) (v9 : Int32) (v10 : Int32) (v11 : Int32) (t0 : Int64) (t1 : Int32) : Option (((Nat → Int64) × Int32 × Int64 × Int32 × Int32) ⊕ ((Nat → Int64) × Int32 × Int64 × Int32)) :=
  gd (ib t1 3) (if v9 = 0 then (f_X5_looksAt_j239 row (vp_updL tic t1.toNatClampNeg t0) v6 v7 v10 v11) else (gd (ib v10 3) (if (lg_cmp ((vp_updL tic t1.toNatClampNeg t0) v10.toNatClampNeg) 0) < 0 then (f_X5_looksAt_j239 row (vp_updL tic t1.toNatClampNeg t0) v6 v7 v10 v11) else (gd (ib v10 3) (if 0 ≤ (lg_cmp v4 0) then (f_X5_looksAt_j230 row (vp_updL tic t1.toNatClampNeg t0) v6 v7 v10 v11 v4 20 ((vp_updL tic t1.toNatClampNeg t0) v10.toNatClampNeg)) else (f_X5_looksAt_j230 row (vp_updL tic t1.toNatClampNeg t0) v6 v7 v10 v11 (-v4) 20 ((vp_updL tic t1.toNatClampNeg t0) v10.toNatClampNeg)))))))
def f_X5_looksAt_b140 (row : Nat → Int32) (v1 : Int32) (v2 : Int32) (v3 : Int32) (v4 : Int64) (z18 : (Nat → Int64) × Int32 × Int64 × Int32 × Int32) : Option (((Nat → Int64) × Int32 × Int64 × Int32 × Int32) ⊕ ((Nat → Int64) × Int32 × Int64 × Int32)) :=
  if 3 ≤ z18.2.2.2.2 then (some (Sum.inr (z18.1, z18.2.1, z18.2.2.1, z18.2.2.2.1))) else ((f_X5_member v1 v2 v3 z18.2.2.2.2).bind (fun q20 => if 0 ≤ (lg_cmp v4 0) then (gd (ib z18.2.2.2.2 3) (f_X5_looksAt_j187 row z18.1 v4 z18.2.1 z18.2.2.1 z18.2.2.2.1 z18.2.2.2.2 q20 (z18.1 z18.2.2.2.2.toNatClampNeg) z18.2.2.2.2)) else (gd (ib z18.2.2.2.2 3) (f_X5_looksAt_j187 row z18.1 v4 z18.2.1 z18.2.2.1 z18.2.2.2.1 z18.2.2.2.2 q20 (-(z18.1 z18.2.2.2.2.toNatClampNeg)) z18.2.2.2.2))))
def f_X5_looksAt_b418 (z49 : (Nat → Int64) × Int32) : Option (((Nat → Int64) × Int32) ⊕ ((Nat → Int64))) :=
  if 8 ≤ z49.2 then (some (Sum.inr z49.1)) else (gd (ib z49.2 8) (some (Sum.inl ((vp_updL z49.1 z49.2.toNatClampNeg 0), (z49.2 + 1)))))
def f_X5_looksAt_j376 (row : Nat → Int32) (tab : Nat → Int64) (bes : Nat → Int64) (tic : Nat → Int64) (bwh : Int64) (bpr : Int64) (bse : Int32) (v1 : Int32) (v2 : Int32) (v3 : Int32) (v6 : Int32) (v7 : Int64) (v9 : Int32) (v10 : Int64) (t0 : Int32) : Option ((Nat → Int64) × (Nat → Int64) × (Nat → Int64) × Int64 × Int64 × Int32) :=
  if v9 = 0 then (some (tab, bes, tic, bwh, bpr, bse)) else ((f_X5_isBad row v6).bind (fun q46 => if q46 = 0 then (if t0 = 0 then (some (tab, bes, tic, bwh, bpr, bse)) else ((lp f_X5_looksAt_b418 1000 (bes, 0)).bind (fun q49 => gd (ib 0 3) (gd (ib v1 8) (gd (ib 1 3) (gd (ib v2 8) (gd (ib 2 3) (gd (ib v3 8) (some (tab, (vp_updL (vp_updL (vp_updL q49 v1.toNatClampNeg (tic (0 : Int32).toNatClampNeg)) v2.toNatClampNeg (tic (1 : Int32).toNatClampNeg)) v3.toNatClampNeg (tic (2 : Int32).toNatClampNeg)), tic, v10, v7, v6)))))))))) else (some (tab, bes, tic, bwh, bpr, bse))))
def f_X5_looksAt_j371 (row : Nat → Int32) (tab : Nat → Int64) (bes : Nat → Int64) (tic : Nat → Int64) (bwh : Int64) (bpr : Int64) (bse : Int32) (v1 : Int32) (v2 : Int32) (v3 : Int32) (v6 : Int32) (v7 : Int64) (v9 : Int32) (v10 : Int64) : Option ((Nat → Int64) × (Nat → Int64) × (Nat → Int64) × Int64 × Int64 × Int32) :=
  f_X5_looksAt_j376 row tab bes tic bwh bpr bse v1 v2 v3 v6 v7 v9 v10 1
def f_X5_looksAt_j375 (row : Nat → Int32) (tab : Nat → Int64) (bes : Nat → Int64) (tic : Nat → Int64) (bwh : Int64) (bpr : Int64) (bse : Int32) (v1 : Int32) (v2 : Int32) (v3 : Int32) (v6 : Int32) (v7 : Int64) (v9 : Int32) (v10 : Int64) : Option ((Nat → Int64) × (Nat → Int64) × (Nat → Int64) × Int64 × Int64 × Int32) :=
  f_X5_looksAt_j376 row tab bes tic bwh bpr bse v1 v2 v3 v6 v7 v9 v10 0
def f_X5_looksAt_j317 (row : Nat → Int32) (tab : Nat → Int64) (bes : Nat → Int64) (tic : Nat → Int64) (bwh : Int64) (bpr : Int64) (bse : Int32) (v1 : Int32) (v2 : Int32) (v3 : Int32) (v6 : Int32) (v7 : Int64) (v9 : Int32) (t0 : Int64) : Option ((Nat → Int64) × (Nat → Int64) × (Nat → Int64) × Int64 × Int64 × Int32) :=
  if bse < 0 then (f_X5_looksAt_j371 row tab bes tic bwh bpr bse v1 v2 v3 v6 v7 v9 t0) else (if (lg_cmp (v7 * bwh) (bpr * t0)) < 0 then (f_X5_looksAt_j371 row tab bes tic bwh bpr bse v1 v2 v3 v6 v7 v9 t0) else (if (lg_cmp (v7 * bwh) (bpr * t0)) = 0 then (if bse ≤ v6 then (f_X5_looksAt_j375 row tab bes tic bwh bpr bse v1 v2 v3 v6 v7 v9 t0) else (f_X5_looksAt_j371 row tab bes tic bwh bpr bse v1 v2 v3 v6 v7 v9 t0)) else (f_X5_looksAt_j375 row tab bes tic bwh bpr bse v1 v2 v3 v6 v7 v9 t0)))
def f_X5_looksAt (row : Nat → Int32) (goa : Nat → Int64) (tab : Nat → Int64) (bes : Nat → Int64) (tic : Nat → Int64) (bwh : Int64) (bpr : Int64) (bse : Int32) (p0 : Int32) (p1 : Int32) (p2 : Int32) : Option ((Nat → Int64) × (Nat → Int64) × (Nat → Int64) × Int64 × Int64 × Int32) :=
  (lp (f_X5_looksAt_b6 row goa p0 p1 p2) 1000 (tab, tic, 0, (-1))).bind (fun q1 => if (lg_cmp q1.2.2 0) = 0 then (some (q1.1, bes, q1.2.1, bwh, bpr, bse)) else ((lp (f_X5_looksAt_b140 row p0 p1 p2 q1.2.2) 1000 (q1.2.1, 0, 0, 1, 0)).bind (fun q18 => if 0 ≤ (lg_cmp q1.2.2 0) then (f_X5_looksAt_j317 row q1.1 bes q18.1 bwh bpr bse p0 p1 p2 q18.2.1 q18.2.2.1 q18.2.2.2 q1.2.2) else (f_X5_looksAt_j317 row q1.1 bes q18.1 bwh bpr bse p0 p1 p2 q18.2.1 q18.2.2.1 q18.2.2.2 (-q1.2.2)))))

set_option maxHeartbeats 4000000 in
set_option maxRecDepth 100000 in
theorem c_X5_looksAt (l : Launch) (G : va_G) (cI cJ cZ cO cA : ClassId) (e : Nat × Nat) (aM : Nat → Nat) (sz : Nat) (row : Nat → Int32) (tot : Nat → Int64) (tab : Nat → Int64) (goa : Nat → Int64) (bes : Nat → Int64) (tic : Nat → Int64) (txt : Nat → Int32) (par : Nat → Int32) (sav : Int32) (bwh : Int64) (bpr : Int64) (bse : Int32) (len : Int32) (mat : Int32) (ask : Int32) (hh : Int64) (p0 : Int32) (p1 : Int32) (p2 : Int32) {res : (Nat → Int64) × (Nat → Int64) × (Nat → Int64) × Int64 × Int64 × Int32} (hf : f_X5_looksAt row goa tab bes tic bwh bpr bse p0 p1 p2 = some res) : MetV l yX5_looksAt cX5_looksAt 14 ({ frames := 5, cells := 0, slots := 0, locals := 110 } : Room) [.ref (aM 0), .int p0, .int p1, .int p2] G (ty5 cI cJ cZ cO cA) e (wM cI cJ aM row tot tab goa bes tic txt par sav bwh bpr bse len mat ask hh ++ ([] : va_W)) (wM cI cJ aM row tot res.1 goa res.2.1 res.2.2.1 txt par sav res.2.2.2.1 res.2.2.2.2.1 res.2.2.2.2.2 len mat ask hh ++ ([] : va_W)) sz := by
  refine g_body (QQ := fun A => (qV G (ty5 cI cJ cZ cO cA) A (wM cI cJ aM row tot res.1 goa res.2.1 res.2.2.1 txt par sav res.2.2.2.1 res.2.2.2.2.1 res.2.2.2.2.2 len mat ask hh ++ ([] : va_W)))) (own := RX5) (by decide) rfl (Nat.le_of_ble_eq_true rfl) ?_
  intro p ev s m below meth c A ls hx hb hr hml hown hts hlk hA hP hD hS hK hE hl
  have hl : lv_has ls 14 [(0, .ref (aM 0)), (1, .int p0), (2, .int p1), (3, .int p2)] := hl
  show W p l ev ({ frames := 5, cells := 0, slots := 0, locals := 110 } : Room) s m ([.ref (aM 0), .int p0, .int p1, .int p2] : List Value).toArray below meth c s.heap [] 0 0 (MQ below (qV G (ty5 cI cJ cZ cO cA) A (wM cI cJ aM row tot res.1 goa res.2.1 res.2.2.1 txt par sav res.2.2.2.1 res.2.2.2.2.1 res.2.2.2.2.2 len mat ask hh ++ ([] : va_W))) ([.ref (aM 0), .int p0, .int p1, .int p2] : List Value).toArray s 0 0 A) (F0 m 0 ls [])
  have h := hf
  unfold f_X5_looksAt at h
  refine lv_lconst (v := 0) hx hb dX5_looksAt_0 (by decide) ?_
  refine lv_lstore (lv' := [(4, .long 0), (0, .ref (aM 0)), (1, .int p0), (2, .int p1), (3, .int p2)]) hx hb dX5_looksAt_1 hl (by decide) rfl (fun ls hl => ?_)
  refine lv_iconst (v := (-1)) hx hb dX5_looksAt_3 (by decide) ?_
  refine lv_istore (lv' := [(6, .int (-1)), (4, .long 0), (0, .ref (aM 0)), (1, .int p0), (2, .int p1), (3, .int p2)]) hx hb dX5_looksAt_4 hl (by decide) rfl (fun ls hl => ?_)
  obtain ⟨q1, hq1, h⟩ := bd_s h
  have hX1_0 : ∀ (x1 : (Nat → Int64) × (Nat → Int64) × Int64) (H : Heap) (locs : List Loc) (ls : Array Slot), x1 = q1 → va_P G vwCl (wM cI cJ aM row tot x1.1 goa bes x1.2.1 txt par sav bwh bpr bse len mat ask hh ++ ([] : va_W)) H → va_D A (wM cI cJ aM row tot x1.1 goa bes x1.2.1 txt par sav bwh bpr bse len mat ask hh ++ ([] : va_W)) → va_S A s.heap H locs → lv_has ls 14 [(0, .ref (aM 0)), (1, .int p0), (2, .int p1), (3, .int p2), (4, .long x1.2.2)] → W p l ev ({ frames := 5, cells := 0, slots := 0, locals := 110 } : Room) s m ([.ref (aM 0), .int p0, .int p1, .int p2] : List Value).toArray below meth c H locs 0 0 (MQ below (qV G (ty5 cI cJ cZ cO cA) A (wM cI cJ aM row tot res.1 goa res.2.1 res.2.2.1 txt par sav res.2.2.2.1 res.2.2.2.2.1 res.2.2.2.2.2 len mat ask hh ++ ([] : va_W))) ([.ref (aM 0), .int p0, .int p1, .int p2] : List Value).toArray s 0 0 A) (F0 m 120 ls []) := by
    intro x1 H locs ls e1 hP hD hS hl
    replace e1 := e1.symm
    subst e1
    refine lv_lload hx hb dX5_looksAt_120 (lv_at hl 4 rfl) ?_
    refine lv_lconst (v := 0) hx hb dX5_looksAt_122 (by decide) ?_
    refine W.lcmp hx hb dX5_looksAt_123 ?_
    refine lv_if_ne (tgt := 128) hx hb dX5_looksAt_124 (by decide) (fun c17 => ?_) (fun c17 => ?_)
    · replace h := (if_neg c17).symm.trans h
      refine lv_iconst (v := 0) hx hb dX5_looksAt_128 (by decide) ?_
      refine lv_istore (lv' := [(6, .int 0), (0, .ref (aM 0)), (1, .int p0), (2, .int p1), (3, .int p2), (4, .long q1.2.2)]) hx hb dX5_looksAt_129 hl (by decide) rfl (fun ls hl => ?_)
      refine lv_lconst (v := 0) hx hb dX5_looksAt_131 (by decide) ?_
      refine lv_lstore (lv' := [(7, .long 0), (6, .int 0), (0, .ref (aM 0)), (1, .int p0), (2, .int p1), (3, .int p2), (4, .long q1.2.2)]) hx hb dX5_looksAt_132 hl (by decide) rfl (fun ls hl => ?_)
      refine lv_iconst (v := 1) hx hb dX5_looksAt_134 (by decide) ?_
      refine lv_istore (lv' := [(9, .int 1), (7, .long 0), (6, .int 0), (0, .ref (aM 0)), (1, .int p0), (2, .int p1), (3, .int p2), (4, .long q1.2.2)]) hx hb dX5_looksAt_135 hl (by decide) rfl (fun ls hl => ?_)
      refine lv_iconst (v := 0) hx hb dX5_looksAt_137 (by decide) ?_
      refine lv_istore (lv' := [(10, .int 0), (9, .int 1), (7, .long 0), (6, .int 0), (0, .ref (aM 0)), (1, .int p0), (2, .int p1), (3, .int p2), (4, .long q1.2.2)]) hx hb dX5_looksAt_138 hl (by decide) rfl (fun ls hl => ?_)
      obtain ⟨q18, hq18, h⟩ := bd_s h
      have hX18_0 : ∀ (x18 : (Nat → Int64) × Int32 × Int64 × Int32) (H : Heap) (locs : List Loc) (ls : Array Slot), x18 = q18 → va_P G vwCl (wM cI cJ aM row tot q1.1 goa bes x18.1 txt par sav bwh bpr bse len mat ask hh ++ ([] : va_W)) H → va_D A (wM cI cJ aM row tot q1.1 goa bes x18.1 txt par sav bwh bpr bse len mat ask hh ++ ([] : va_W)) → va_S A s.heap H locs → lv_has ls 14 [(0, .ref (aM 0)), (1, .int p0), (2, .int p1), (3, .int p2), (4, .long q1.2.2), (6, .int x18.2.1), (7, .long x18.2.2.1), (9, .int x18.2.2.2)] → W p l ev ({ frames := 5, cells := 0, slots := 0, locals := 110 } : Room) s m ([.ref (aM 0), .int p0, .int p1, .int p2] : List Value).toArray below meth c H locs 0 0 (MQ below (qV G (ty5 cI cJ cZ cO cA) A (wM cI cJ aM row tot res.1 goa res.2.1 res.2.2.1 txt par sav res.2.2.2.1 res.2.2.2.2.1 res.2.2.2.2.2 len mat ask hh ++ ([] : va_W))) ([.ref (aM 0), .int p0, .int p1, .int p2] : List Value).toArray s 0 0 A) (F0 m 302 ls []) := by
        intro x18 H locs ls e18 hP hD hS hl
        replace e18 := e18.symm
        subst e18
        refine lv_lload hx hb dX5_looksAt_302 (lv_at hl 4 rfl) ?_
        refine lv_lconst (v := 0) hx hb dX5_looksAt_304 (by decide) ?_
        refine W.lcmp hx hb dX5_looksAt_305 ?_
        have hJ42 : ∀ (tab_42 : Nat → Int64) (bes_42 : Nat → Int64) (tic_42 : Nat → Int64) (bwh_42 : Int64) (bpr_42 : Int64) (bse_42 : Int32) (v6_42 : Int32) (v7_42 : Int64) (v9_42 : Int32) (t0_42 : Int64) (H : Heap) (locs : List Loc) (ls : Array Slot), f_X5_looksAt_j317 row tab_42 bes_42 tic_42 bwh_42 bpr_42 bse_42 p0 p1 p2 v6_42 v7_42 v9_42 t0_42 = some res → va_P G vwCl (wM cI cJ aM row tot tab_42 goa bes_42 tic_42 txt par sav bwh_42 bpr_42 bse_42 len mat ask hh ++ ([] : va_W)) H → va_D A (wM cI cJ aM row tot tab_42 goa bes_42 tic_42 txt par sav bwh_42 bpr_42 bse_42 len mat ask hh ++ ([] : va_W)) → va_S A s.heap H locs → lv_has ls 14 [(0, .ref (aM 0)), (1, .int p0), (2, .int p1), (3, .int p2), (6, .int v6_42), (7, .long v7_42), (9, .int v9_42)] → W p l ev ({ frames := 5, cells := 0, slots := 0, locals := 110 } : Room) s m ([.ref (aM 0), .int p0, .int p1, .int p2] : List Value).toArray below meth c H locs 0 0 (MQ below (qV G (ty5 cI cJ cZ cO cA) A (wM cI cJ aM row tot res.1 goa res.2.1 res.2.2.1 txt par sav res.2.2.2.1 res.2.2.2.2.1 res.2.2.2.2.2 len mat ask hh ++ ([] : va_W))) ([.ref (aM 0), .int p0, .int p1, .int p2] : List Value).toArray s 0 0 A) (F0 m 317 ls [.long t0_42]) := by
          intro tab_42 bes_42 tic_42 bwh_42 bpr_42 bse_42 v6_42 v7_42 v9_42 t0_42 H locs ls h hP hD hS hl
          unfold f_X5_looksAt_j317 at h
          refine lv_lstore (lv' := [(10, .long t0_42), (0, .ref (aM 0)), (1, .int p0), (2, .int p1), (3, .int p2), (6, .int v6_42), (7, .long v7_42), (9, .int v9_42)]) hx hb dX5_looksAt_317 hl (by decide) rfl (fun ls hl => ?_)
          refine lv_aload_n hx hb dX5_looksAt_319 rfl (lv_at hl 1 rfl) ?_
          refine va_get (D := G) (ci := 5) (v := .int bse_42) (C := RX5) (T := TX5) (N := 16) hx hb hts uX5 hown hK hP 0 rfl rfl 8 (by decide) (hts _ kw587) (fun _ h9 => h9) rfl dX5_looksAt_320 ?_
          have hJ44 : ∀ (tab_44 : Nat → Int64) (bes_44 : Nat → Int64) (tic_44 : Nat → Int64) (bwh_44 : Int64) (bpr_44 : Int64) (bse_44 : Int32) (v6_44 : Int32) (v7_44 : Int64) (v9_44 : Int32) (v10_44 : Int64) (t0_44 : Int32) (H : Heap) (locs : List Loc) (ls : Array Slot), f_X5_looksAt_j376 row tab_44 bes_44 tic_44 bwh_44 bpr_44 bse_44 p0 p1 p2 v6_44 v7_44 v9_44 v10_44 t0_44 = some res → va_P G vwCl (wM cI cJ aM row tot tab_44 goa bes_44 tic_44 txt par sav bwh_44 bpr_44 bse_44 len mat ask hh ++ ([] : va_W)) H → va_D A (wM cI cJ aM row tot tab_44 goa bes_44 tic_44 txt par sav bwh_44 bpr_44 bse_44 len mat ask hh ++ ([] : va_W)) → va_S A s.heap H locs → lv_has ls 14 [(0, .ref (aM 0)), (1, .int p0), (2, .int p1), (3, .int p2), (6, .int v6_44), (7, .long v7_44), (9, .int v9_44), (10, .long v10_44)] → W p l ev ({ frames := 5, cells := 0, slots := 0, locals := 110 } : Room) s m ([.ref (aM 0), .int p0, .int p1, .int p2] : List Value).toArray below meth c H locs 0 0 (MQ below (qV G (ty5 cI cJ cZ cO cA) A (wM cI cJ aM row tot res.1 goa res.2.1 res.2.2.1 txt par sav res.2.2.2.1 res.2.2.2.2.1 res.2.2.2.2.2 len mat ask hh ++ ([] : va_W))) ([.ref (aM 0), .int p0, .int p1, .int p2] : List Value).toArray s 0 0 A) (F0 m 376 ls [.int t0_44]) := by
            intro tab_44 bes_44 tic_44 bwh_44 bpr_44 bse_44 v6_44 v7_44 v9_44 v10_44 t0_44 H locs ls h hP hD hS hl
            unfold f_X5_looksAt_j376 at h
            refine lv_istore (lv' := [(12, .int t0_44), (0, .ref (aM 0)), (1, .int p0), (2, .int p1), (3, .int p2), (6, .int v6_44), (7, .long v7_44), (9, .int v9_44), (10, .long v10_44)]) hx hb dX5_looksAt_376 hl (by decide) rfl (fun ls hl => ?_)
            refine lv_iload hx hb dX5_looksAt_378 (lv_at hl 7 rfl) ?_
            refine lv_if_eq (tgt := 475) hx hb dX5_looksAt_380 (by decide) (fun c45 => ?_) (fun c45 => ?_)
            · replace h := (if_pos c45).symm.trans h
              rw [← Option.some.inj h]
              exact krv hx hb hr hlk hP hD hS hK dX5_looksAt_475
            · replace h := (if_neg c45).symm.trans h
              refine lv_aload_n hx hb dX5_looksAt_383 rfl (lv_at hl 1 rfl) ?_
              refine lv_iload hx hb dX5_looksAt_384 (lv_at hl 5 rfl) ?_
              obtain ⟨q46, hq46, h⟩ := bd_s h
              refine kVi (n := 1) (C := RX5) (ws' := wM cI cJ aM row tot tab_44 goa bes_44 tic_44 txt par sav bwh_44 bpr_44 bse_44 len mat ask hh ++ ([] : va_W)) (As := [.int v6_44]) (rest := []) hx hb hml hown hts (c_X5_isBad l G cI cJ cZ cO cA e aM _ row tot tab_44 goa bes_44 tic_44 txt par sav bwh_44 bpr_44 bse_44 len mat ask hh v6_44 hq46) (tb_V kw732 kw734 kv25 kw7 kw735) rfl rfl (by decide +kernel) ⟨Nat.le_of_ble_eq_true rfl, Nat.le_of_ble_eq_true rfl⟩ hK hP hD hS hA hE 0 rfl rfl [0, 1, 2, 3, 4, 5, 6, 7, 8] [] rfl rfl rfl 9 ⟨rfl, rfl⟩ (by decide +kernel) (by decide +kernel) rfl rfl hl.1 (Nat.le_of_ble_eq_true rfl) ⟨Nat.zero_le _, Nat.zero_le _⟩ dX5_looksAt_386 (fun H locs hP hD hS => ?_)
              refine lv_if_ne (tgt := 475) hx hb dX5_looksAt_389 (by decide) (fun c47 => ?_) (fun c47 => ?_)
              · replace h := (if_neg c47).symm.trans h
                rw [← Option.some.inj h]
                exact krv hx hb hr hlk hP hD hS hK dX5_looksAt_475
              · replace h := (if_pos c47).symm.trans h
                refine lv_iload hx hb dX5_looksAt_392 (lv_at hl 0 rfl) ?_
                refine lv_if_eq (tgt := 475) hx hb dX5_looksAt_394 (by decide) (fun c48 => ?_) (fun c48 => ?_)
                · replace h := (if_pos c48).symm.trans h
                  rw [← Option.some.inj h]
                  exact krv hx hb hr hlk hP hD hS hK dX5_looksAt_475
                · replace h := (if_neg c48).symm.trans h
                  refine lv_aload_n hx hb dX5_looksAt_397 rfl (lv_at hl 1 rfl) ?_
                  refine lv_iload hx hb dX5_looksAt_398 (lv_at hl 5 rfl) ?_
                  refine va_put (D := G) (ci := 5) (ty := .int) (v := .int v6_44) (C := RX5) (T := TX5) (N := 16) hx hb hts uX5 tyX5 tyX5_ok nmX5 hown hK hP hD hS 0 rfl rfl 8 (by decide) (hts _ kw587) (fun _ h9 => h9) rfl (by decide +kernel) rfl rfl (Nat.le_of_ble_eq_true rfl) dX5_looksAt_400 (fun H locs hP hD hS => ?_)
                  have hP : va_P G vwCl (wM cI cJ aM row tot tab_44 goa bes_44 tic_44 txt par sav bwh_44 bpr_44 v6_44 len mat ask hh ++ ([] : va_W)) H := hP
                  have hD : va_D A (wM cI cJ aM row tot tab_44 goa bes_44 tic_44 txt par sav bwh_44 bpr_44 v6_44 len mat ask hh ++ ([] : va_W)) := hD
                  refine lv_aload_n hx hb dX5_looksAt_403 rfl (lv_at hl 1 rfl) ?_
                  refine lv_lload hx hb dX5_looksAt_404 (lv_at hl 6 rfl) ?_
                  refine va_put (D := G) (ci := 5) (ty := .long) (v := .long v7_44) (C := RX5) (T := TX5) (N := 16) hx hb hts uX5 tyX5 tyX5_ok nmX5 hown hK hP hD hS 0 rfl rfl 7 (by decide) (hts _ kw586) (fun _ h9 => h9) rfl (by decide +kernel) rfl rfl (Nat.le_of_ble_eq_true rfl) dX5_looksAt_406 (fun H locs hP hD hS => ?_)
                  have hP : va_P G vwCl (wM cI cJ aM row tot tab_44 goa bes_44 tic_44 txt par sav bwh_44 v7_44 v6_44 len mat ask hh ++ ([] : va_W)) H := hP
                  have hD : va_D A (wM cI cJ aM row tot tab_44 goa bes_44 tic_44 txt par sav bwh_44 v7_44 v6_44 len mat ask hh ++ ([] : va_W)) := hD
                  refine lv_aload_n hx hb dX5_looksAt_409 rfl (lv_at hl 1 rfl) ?_
                  refine lv_lload hx hb dX5_looksAt_410 (lv_at hl 8 rfl) ?_
                  refine va_put (D := G) (ci := 5) (ty := .long) (v := .long v10_44) (C := RX5) (T := TX5) (N := 16) hx hb hts uX5 tyX5 tyX5_ok nmX5 hown hK hP hD hS 0 rfl rfl 6 (by decide) (hts _ kw585) (fun _ h9 => h9) rfl (by decide +kernel) rfl rfl (Nat.le_of_ble_eq_true rfl) dX5_looksAt_412 (fun H locs hP hD hS => ?_)
                  have hP : va_P G vwCl (wM cI cJ aM row tot tab_44 goa bes_44 tic_44 txt par sav v10_44 v7_44 v6_44 len mat ask hh ++ ([] : va_W)) H := hP
                  have hD : va_D A (wM cI cJ aM row tot tab_44 goa bes_44 tic_44 txt par sav v10_44 v7_44 v6_44 len mat ask hh ++ ([] : va_W)) := hD
                  refine lv_iconst (v := 0) hx hb dX5_looksAt_415 (by decide) ?_
                  refine lv_istore (lv' := [(13, .int 0), (12, .int t0_44), (0, .ref (aM 0)), (1, .int p0), (2, .int p1), (3, .int p2), (6, .int v6_44), (7, .long v7_44), (9, .int v9_44), (10, .long v10_44)]) hx hb dX5_looksAt_416 hl (by decide) rfl (fun ls hl => ?_)
                  obtain ⟨q49, hq49, h⟩ := bd_s h
                  have hX49_0 : ∀ (x49 : (Nat → Int64)) (H : Heap) (locs : List Loc) (ls : Array Slot), x49 = q49 → va_P G vwCl (wM cI cJ aM row tot tab_44 goa x49 tic_44 txt par sav v10_44 v7_44 v6_44 len mat ask hh ++ ([] : va_W)) H → va_D A (wM cI cJ aM row tot tab_44 goa x49 tic_44 txt par sav v10_44 v7_44 v6_44 len mat ask hh ++ ([] : va_W)) → va_S A s.heap H locs → lv_has ls 14 [(0, .ref (aM 0)), (1, .int p0), (2, .int p1), (3, .int p2)] → W p l ev ({ frames := 5, cells := 0, slots := 0, locals := 110 } : Room) s m ([.ref (aM 0), .int p0, .int p1, .int p2] : List Value).toArray below meth c H locs 0 0 (MQ below (qV G (ty5 cI cJ cZ cO cA) A (wM cI cJ aM row tot res.1 goa res.2.1 res.2.2.1 txt par sav res.2.2.2.1 res.2.2.2.2.1 res.2.2.2.2.2 len mat ask hh ++ ([] : va_W))) ([.ref (aM 0), .int p0, .int p1, .int p2] : List Value).toArray s 0 0 A) (F0 m 439 ls []) := by
                    intro x49 H locs ls e49 hP hD hS hl
                    replace e49 := e49.symm
                    subst e49
                    refine lv_aload_n hx hb dX5_looksAt_439 rfl (lv_at hl 0 rfl) ?_
                    refine va_get (D := G) (ci := 5) (v := .ref (aM 5)) (C := RX5) (T := TX5) (N := 16) hx hb hts uX5 hown hK hP 0 rfl rfl 5 (by decide) (hts _ kw584) (fun _ h9 => h9) rfl dX5_looksAt_440 ?_
                    refine lv_iload_n hx hb dX5_looksAt_443 rfl (lv_at hl 1 rfl) ?_
                    refine lv_aload_n hx hb dX5_looksAt_444 rfl (lv_at hl 0 rfl) ?_
                    refine va_get (D := G) (ci := 5) (v := .ref (aM 6)) (C := RX5) (T := TX5) (N := 16) hx hb hts uX5 hown hK hP 0 rfl rfl 9 (by decide) (hts _ kw588) (fun _ h9 => h9) rfl dX5_looksAt_445 ?_
                    refine lv_iconst (v := 0) hx hb dX5_looksAt_448 (by decide) ?_
                    obtain ⟨g52, h⟩ := gd_s h
                    refine va_lald hx hb hK hP 6 1 rfl rfl (ib_in g52) dX5_looksAt_449 ?_
                    obtain ⟨g53, h⟩ := gd_s h
                    refine va_last hx hb hK hP hD hS 5 1 rfl rfl (ib_in g53) dX5_looksAt_450 (fun H locs hP hD hS => ?_)
                    have hP : va_P G vwCl (wM cI cJ aM row tot tab_44 goa (vp_updL q49 p0.toNatClampNeg (tic_44 (0 : Int32).toNatClampNeg)) tic_44 txt par sav v10_44 v7_44 v6_44 len mat ask hh ++ ([] : va_W)) H := hP
                    have hD : va_D A (wM cI cJ aM row tot tab_44 goa (vp_updL q49 p0.toNatClampNeg (tic_44 (0 : Int32).toNatClampNeg)) tic_44 txt par sav v10_44 v7_44 v6_44 len mat ask hh ++ ([] : va_W)) := hD
                    refine lv_aload_n hx hb dX5_looksAt_451 rfl (lv_at hl 0 rfl) ?_
                    refine va_get (D := G) (ci := 5) (v := .ref (aM 5)) (C := RX5) (T := TX5) (N := 16) hx hb hts uX5 hown hK hP 0 rfl rfl 5 (by decide) (hts _ kw584) (fun _ h9 => h9) rfl dX5_looksAt_452 ?_
                    refine lv_iload_n hx hb dX5_looksAt_455 rfl (lv_at hl 2 rfl) ?_
                    refine lv_aload_n hx hb dX5_looksAt_456 rfl (lv_at hl 0 rfl) ?_
                    refine va_get (D := G) (ci := 5) (v := .ref (aM 6)) (C := RX5) (T := TX5) (N := 16) hx hb hts uX5 hown hK hP 0 rfl rfl 9 (by decide) (hts _ kw588) (fun _ h9 => h9) rfl dX5_looksAt_457 ?_
                    refine lv_iconst (v := 1) hx hb dX5_looksAt_460 (by decide) ?_
                    obtain ⟨g54, h⟩ := gd_s h
                    refine va_lald hx hb hK hP 6 1 rfl rfl (ib_in g54) dX5_looksAt_461 ?_
                    obtain ⟨g55, h⟩ := gd_s h
                    refine va_last hx hb hK hP hD hS 5 1 rfl rfl (ib_in g55) dX5_looksAt_462 (fun H locs hP hD hS => ?_)
                    have hP : va_P G vwCl (wM cI cJ aM row tot tab_44 goa (vp_updL (vp_updL q49 p0.toNatClampNeg (tic_44 (0 : Int32).toNatClampNeg)) p1.toNatClampNeg (tic_44 (1 : Int32).toNatClampNeg)) tic_44 txt par sav v10_44 v7_44 v6_44 len mat ask hh ++ ([] : va_W)) H := hP
                    have hD : va_D A (wM cI cJ aM row tot tab_44 goa (vp_updL (vp_updL q49 p0.toNatClampNeg (tic_44 (0 : Int32).toNatClampNeg)) p1.toNatClampNeg (tic_44 (1 : Int32).toNatClampNeg)) tic_44 txt par sav v10_44 v7_44 v6_44 len mat ask hh ++ ([] : va_W)) := hD
                    refine lv_aload_n hx hb dX5_looksAt_463 rfl (lv_at hl 0 rfl) ?_
                    refine va_get (D := G) (ci := 5) (v := .ref (aM 5)) (C := RX5) (T := TX5) (N := 16) hx hb hts uX5 hown hK hP 0 rfl rfl 5 (by decide) (hts _ kw584) (fun _ h9 => h9) rfl dX5_looksAt_464 ?_
                    refine lv_iload_n hx hb dX5_looksAt_467 rfl (lv_at hl 3 rfl) ?_
                    refine lv_aload_n hx hb dX5_looksAt_468 rfl (lv_at hl 0 rfl) ?_
                    refine va_get (D := G) (ci := 5) (v := .ref (aM 6)) (C := RX5) (T := TX5) (N := 16) hx hb hts uX5 hown hK hP 0 rfl rfl 9 (by decide) (hts _ kw588) (fun _ h9 => h9) rfl dX5_looksAt_469 ?_
                    refine lv_iconst (v := 2) hx hb dX5_looksAt_472 (by decide) ?_
                    obtain ⟨g56, h⟩ := gd_s h
                    refine va_lald hx hb hK hP 6 1 rfl rfl (ib_in g56) dX5_looksAt_473 ?_
                    obtain ⟨g57, h⟩ := gd_s h
                    refine va_last hx hb hK hP hD hS 5 1 rfl rfl (ib_in g57) dX5_looksAt_474 (fun H locs hP hD hS => ?_)
                    have hP : va_P G vwCl (wM cI cJ aM row tot tab_44 goa (vp_updL (vp_updL (vp_updL q49 p0.toNatClampNeg (tic_44 (0 : Int32).toNatClampNeg)) p1.toNatClampNeg (tic_44 (1 : Int32).toNatClampNeg)) p2.toNatClampNeg (tic_44 (2 : Int32).toNatClampNeg)) tic_44 txt par sav v10_44 v7_44 v6_44 len mat ask hh ++ ([] : va_W)) H := hP
                    have hD : va_D A (wM cI cJ aM row tot tab_44 goa (vp_updL (vp_updL (vp_updL q49 p0.toNatClampNeg (tic_44 (0 : Int32).toNatClampNeg)) p1.toNatClampNeg (tic_44 (1 : Int32).toNatClampNeg)) p2.toNatClampNeg (tic_44 (2 : Int32).toNatClampNeg)) tic_44 txt par sav v10_44 v7_44 v6_44 len mat ask hh ++ ([] : va_W)) := hD
                    rw [← Option.some.inj h]
                    exact krv hx hb hr hlk hP hD hS hK dX5_looksAt_475
                  have hL49 : ∀ (n : Nat) (z49 : (Nat → Int64) × Int32) (H : Heap) (locs : List Loc) (ls : Array Slot), lp f_X5_looksAt_b418 n z49 = some q49 → va_P G vwCl (wM cI cJ aM row tot tab_44 goa z49.1 tic_44 txt par sav v10_44 v7_44 v6_44 len mat ask hh ++ ([] : va_W)) H → va_D A (wM cI cJ aM row tot tab_44 goa z49.1 tic_44 txt par sav v10_44 v7_44 v6_44 len mat ask hh ++ ([] : va_W)) → va_S A s.heap H locs → lv_has ls 14 [(0, .ref (aM 0)), (1, .int p0), (2, .int p1), (3, .int p2), (13, .int z49.2)] → W p l ev ({ frames := 5, cells := 0, slots := 0, locals := 110 } : Room) s m ([.ref (aM 0), .int p0, .int p1, .int p2] : List Value).toArray below meth c H locs 0 0 (MQ below (qV G (ty5 cI cJ cZ cO cA) A (wM cI cJ aM row tot res.1 goa res.2.1 res.2.2.1 txt par sav res.2.2.2.1 res.2.2.2.2.1 res.2.2.2.2.2 len mat ask hh ++ ([] : va_W))) ([.ref (aM 0), .int p0, .int p1, .int p2] : List Value).toArray s 0 0 A) (F0 m 418 ls []) := by
                    intro n
                    induction n with
                    | zero => intro z49 H locs ls h; cases h
                    | succ n ih49 =>
                      intro z49 H locs ls h hP hD hS hl
                      obtain ⟨o49, h, h49⟩ := lp_s h
                      unfold f_X5_looksAt_b418 at h
                      refine lv_iload hx hb dX5_looksAt_418 (lv_at hl 4 rfl) ?_
                      refine lv_bipush (v := 8) hx hb dX5_looksAt_420 (by decide) ?_
                      refine lv_icmp_ge (tgt := 439) hx hb dX5_looksAt_422 (by decide) (fun c50 => ?_) (fun c50 => ?_)
                      · replace h := (if_pos c50).symm.trans h
                        rw [← Option.some.inj h] at h49
                        exact hX49_0 z49.1 _ _ _ (lp_x h49) hP hD hS (lv_sub hl [0, 1, 2, 3] rfl)
                      · replace h := (if_neg c50).symm.trans h
                        refine lv_aload_n hx hb dX5_looksAt_425 rfl (lv_at hl 0 rfl) ?_
                        refine va_get (D := G) (ci := 5) (v := .ref (aM 5)) (C := RX5) (T := TX5) (N := 16) hx hb hts uX5 hown hK hP 0 rfl rfl 5 (by decide) (hts _ kw584) (fun _ h9 => h9) rfl dX5_looksAt_426 ?_
                        refine lv_iload hx hb dX5_looksAt_429 (lv_at hl 4 rfl) ?_
                        refine lv_lconst (v := 0) hx hb dX5_looksAt_431 (by decide) ?_
                        obtain ⟨g51, h⟩ := gd_s h
                        refine va_last hx hb hK hP hD hS 5 1 rfl rfl (ib_in g51) dX5_looksAt_432 (fun H locs hP hD hS => ?_)
                        have hP : va_P G vwCl (wM cI cJ aM row tot tab_44 goa (vp_updL z49.1 z49.2.toNatClampNeg 0) tic_44 txt par sav v10_44 v7_44 v6_44 len mat ask hh ++ ([] : va_W)) H := hP
                        have hD : va_D A (wM cI cJ aM row tot tab_44 goa (vp_updL z49.1 z49.2.toNatClampNeg 0) tic_44 txt par sav v10_44 v7_44 v6_44 len mat ask hh ++ ([] : va_W)) := hD
                        refine lv_iinc (v := (z49.2 + 1)) (lv' := [(13, .int (z49.2 + 1)), (0, .ref (aM 0)), (1, .int p0), (2, .int p1), (3, .int p2)]) hx hb dX5_looksAt_433 hl (k := 4) rfl rfl (by decide) rfl (fun ls hl => ?_)
                        refine lv_goto (tgt := 418) hx hb dX5_looksAt_436 (by decide) ?_
                        rw [← Option.some.inj h] at h49
                        exact ih49 ((vp_updL z49.1 z49.2.toNatClampNeg 0), (z49.2 + 1)) _ _ _ (lp_b h49) hP hD hS (lv_sub hl [1, 2, 3, 4, 0] rfl)
                  exact hL49 _ (bes_44, 0) _ _ _ hq49 hP hD hS (lv_sub hl [2, 3, 4, 5, 0] rfl)
          have hJ58 : ∀ (tab_58 : Nat → Int64) (bes_58 : Nat → Int64) (tic_58 : Nat → Int64) (bwh_58 : Int64) (bpr_58 : Int64) (bse_58 : Int32) (v6_58 : Int32) (v7_58 : Int64) (v9_58 : Int32) (v10_58 : Int64) (H : Heap) (locs : List Loc) (ls : Array Slot), f_X5_looksAt_j371 row tab_58 bes_58 tic_58 bwh_58 bpr_58 bse_58 p0 p1 p2 v6_58 v7_58 v9_58 v10_58 = some res → va_P G vwCl (wM cI cJ aM row tot tab_58 goa bes_58 tic_58 txt par sav bwh_58 bpr_58 bse_58 len mat ask hh ++ ([] : va_W)) H → va_D A (wM cI cJ aM row tot tab_58 goa bes_58 tic_58 txt par sav bwh_58 bpr_58 bse_58 len mat ask hh ++ ([] : va_W)) → va_S A s.heap H locs → lv_has ls 14 [(0, .ref (aM 0)), (1, .int p0), (2, .int p1), (3, .int p2), (6, .int v6_58), (7, .long v7_58), (9, .int v9_58), (10, .long v10_58)] → W p l ev ({ frames := 5, cells := 0, slots := 0, locals := 110 } : Room) s m ([.ref (aM 0), .int p0, .int p1, .int p2] : List Value).toArray below meth c H locs 0 0 (MQ below (qV G (ty5 cI cJ cZ cO cA) A (wM cI cJ aM row tot res.1 goa res.2.1 res.2.2.1 txt par sav res.2.2.2.1 res.2.2.2.2.1 res.2.2.2.2.2 len mat ask hh ++ ([] : va_W))) ([.ref (aM 0), .int p0, .int p1, .int p2] : List Value).toArray s 0 0 A) (F0 m 371 ls []) := by
            intro tab_58 bes_58 tic_58 bwh_58 bpr_58 bse_58 v6_58 v7_58 v9_58 v10_58 H locs ls h hP hD hS hl
            unfold f_X5_looksAt_j371 at h
            refine lv_iconst (v := 1) hx hb dX5_looksAt_371 (by decide) ?_
            refine lv_goto (tgt := 376) hx hb dX5_looksAt_372 (by decide) ?_
            exact hJ44 tab_58 bes_58 tic_58 bwh_58 bpr_58 bse_58 v6_58 v7_58 v9_58 v10_58 1 _ _ _ h hP hD hS (lv_sub hl [0, 1, 2, 3, 4, 5, 6, 7] rfl)
          refine lv_if_lt (tgt := 371) hx hb dX5_looksAt_323 (by decide) (fun c43 => ?_) (fun c43 => ?_)
          · replace h := (if_pos c43).symm.trans h
            exact hJ58 tab_42 bes_42 tic_42 bwh_42 bpr_42 bse_42 v6_42 v7_42 v9_42 t0_42 _ _ _ h hP hD hS (lv_sub hl [1, 2, 3, 4, 5, 6, 7, 0] rfl)
          · replace h := (if_neg c43).symm.trans h
            refine lv_lload hx hb dX5_looksAt_326 (lv_at hl 6 rfl) ?_
            refine lv_aload_n hx hb dX5_looksAt_328 rfl (lv_at hl 1 rfl) ?_
            refine va_get (D := G) (ci := 5) (v := .long bwh_42) (C := RX5) (T := TX5) (N := 16) hx hb hts uX5 hown hK hP 0 rfl rfl 6 (by decide) (hts _ kw585) (fun _ h9 => h9) rfl dX5_looksAt_329 ?_
            refine lv_lmul hx hb dX5_looksAt_332 ?_
            refine lv_aload_n hx hb dX5_looksAt_333 rfl (lv_at hl 1 rfl) ?_
            refine va_get (D := G) (ci := 5) (v := .long bpr_42) (C := RX5) (T := TX5) (N := 16) hx hb hts uX5 hown hK hP 0 rfl rfl 7 (by decide) (hts _ kw586) (fun _ h9 => h9) rfl dX5_looksAt_334 ?_
            refine lv_lload hx hb dX5_looksAt_337 (lv_at hl 0 rfl) ?_
            refine lv_lmul hx hb dX5_looksAt_339 ?_
            refine W.lcmp hx hb dX5_looksAt_340 ?_
            refine lv_if_lt (tgt := 371) hx hb dX5_looksAt_341 (by decide) (fun c59 => ?_) (fun c59 => ?_)
            · replace h := (if_pos c59).symm.trans h
              exact hJ58 tab_42 bes_42 tic_42 bwh_42 bpr_42 bse_42 v6_42 v7_42 v9_42 t0_42 _ _ _ h hP hD hS (lv_sub hl [1, 2, 3, 4, 5, 6, 7, 0] rfl)
            · replace h := (if_neg c59).symm.trans h
              refine lv_lload hx hb dX5_looksAt_344 (lv_at hl 6 rfl) ?_
              refine lv_aload_n hx hb dX5_looksAt_346 rfl (lv_at hl 1 rfl) ?_
              refine va_get (D := G) (ci := 5) (v := .long bwh_42) (C := RX5) (T := TX5) (N := 16) hx hb hts uX5 hown hK hP 0 rfl rfl 6 (by decide) (hts _ kw585) (fun _ h9 => h9) rfl dX5_looksAt_347 ?_
              refine lv_lmul hx hb dX5_looksAt_350 ?_
              refine lv_aload_n hx hb dX5_looksAt_351 rfl (lv_at hl 1 rfl) ?_
              refine va_get (D := G) (ci := 5) (v := .long bpr_42) (C := RX5) (T := TX5) (N := 16) hx hb hts uX5 hown hK hP 0 rfl rfl 7 (by decide) (hts _ kw586) (fun _ h9 => h9) rfl dX5_looksAt_352 ?_
              refine lv_lload hx hb dX5_looksAt_355 (lv_at hl 0 rfl) ?_
              refine lv_lmul hx hb dX5_looksAt_357 ?_
              refine W.lcmp hx hb dX5_looksAt_358 ?_
              have hJ61 : ∀ (tab_61 : Nat → Int64) (bes_61 : Nat → Int64) (tic_61 : Nat → Int64) (bwh_61 : Int64) (bpr_61 : Int64) (bse_61 : Int32) (v6_61 : Int32) (v7_61 : Int64) (v9_61 : Int32) (v10_61 : Int64) (H : Heap) (locs : List Loc) (ls : Array Slot), f_X5_looksAt_j375 row tab_61 bes_61 tic_61 bwh_61 bpr_61 bse_61 p0 p1 p2 v6_61 v7_61 v9_61 v10_61 = some res → va_P G vwCl (wM cI cJ aM row tot tab_61 goa bes_61 tic_61 txt par sav bwh_61 bpr_61 bse_61 len mat ask hh ++ ([] : va_W)) H → va_D A (wM cI cJ aM row tot tab_61 goa bes_61 tic_61 txt par sav bwh_61 bpr_61 bse_61 len mat ask hh ++ ([] : va_W)) → va_S A s.heap H locs → lv_has ls 14 [(0, .ref (aM 0)), (1, .int p0), (2, .int p1), (3, .int p2), (6, .int v6_61), (7, .long v7_61), (9, .int v9_61), (10, .long v10_61)] → W p l ev ({ frames := 5, cells := 0, slots := 0, locals := 110 } : Room) s m ([.ref (aM 0), .int p0, .int p1, .int p2] : List Value).toArray below meth c H locs 0 0 (MQ below (qV G (ty5 cI cJ cZ cO cA) A (wM cI cJ aM row tot res.1 goa res.2.1 res.2.2.1 txt par sav res.2.2.2.1 res.2.2.2.2.1 res.2.2.2.2.2 len mat ask hh ++ ([] : va_W))) ([.ref (aM 0), .int p0, .int p1, .int p2] : List Value).toArray s 0 0 A) (F0 m 375 ls []) := by
                intro tab_61 bes_61 tic_61 bwh_61 bpr_61 bse_61 v6_61 v7_61 v9_61 v10_61 H locs ls h hP hD hS hl
                unfold f_X5_looksAt_j375 at h
                refine lv_iconst (v := 0) hx hb dX5_looksAt_375 (by decide) ?_
                exact hJ44 tab_61 bes_61 tic_61 bwh_61 bpr_61 bse_61 v6_61 v7_61 v9_61 v10_61 0 _ _ _ h hP hD hS (lv_sub hl [0, 1, 2, 3, 4, 5, 6, 7] rfl)
              refine lv_if_ne (tgt := 375) hx hb dX5_looksAt_359 (by decide) (fun c60 => ?_) (fun c60 => ?_)
              · replace h := (if_neg c60).symm.trans h
                exact hJ61 tab_42 bes_42 tic_42 bwh_42 bpr_42 bse_42 v6_42 v7_42 v9_42 t0_42 _ _ _ h hP hD hS (lv_sub hl [1, 2, 3, 4, 5, 6, 7, 0] rfl)
              · replace h := (if_pos c60).symm.trans h
                refine lv_iload hx hb dX5_looksAt_362 (lv_at hl 5 rfl) ?_
                refine lv_aload_n hx hb dX5_looksAt_364 rfl (lv_at hl 1 rfl) ?_
                refine va_get (D := G) (ci := 5) (v := .int bse_42) (C := RX5) (T := TX5) (N := 16) hx hb hts uX5 hown hK hP 0 rfl rfl 8 (by decide) (hts _ kw587) (fun _ h9 => h9) rfl dX5_looksAt_365 ?_
                refine lv_icmp_ge (tgt := 375) hx hb dX5_looksAt_368 (by decide) (fun c62 => ?_) (fun c62 => ?_)
                · replace h := (if_pos c62).symm.trans h
                  exact hJ61 tab_42 bes_42 tic_42 bwh_42 bpr_42 bse_42 v6_42 v7_42 v9_42 t0_42 _ _ _ h hP hD hS (lv_sub hl [1, 2, 3, 4, 5, 6, 7, 0] rfl)
                · replace h := (if_neg c62).symm.trans h
                  exact hJ58 tab_42 bes_42 tic_42 bwh_42 bpr_42 bse_42 v6_42 v7_42 v9_42 t0_42 _ _ _ h hP hD hS (lv_sub hl [1, 2, 3, 4, 5, 6, 7, 0] rfl)
        refine lv_if_ge (tgt := 315) hx hb dX5_looksAt_306 (by decide) (fun c41 => ?_) (fun c41 => ?_)
        · replace h := (if_pos c41).symm.trans h
          refine lv_lload hx hb dX5_looksAt_315 (lv_at hl 4 rfl) ?_
          exact hJ42 q1.1 bes q18.1 bwh bpr bse q18.2.1 q18.2.2.1 q18.2.2.2 q1.2.2 _ _ _ h hP hD hS (lv_sub hl [0, 1, 2, 3, 5, 6, 7] rfl)
        · replace h := (if_neg c41).symm.trans h
          refine lv_lload hx hb dX5_looksAt_309 (lv_at hl 4 rfl) ?_
          refine lv_lneg hx hb dX5_looksAt_311 ?_
          refine lv_goto (tgt := 317) hx hb dX5_looksAt_312 (by decide) ?_
          exact hJ42 q1.1 bes q18.1 bwh bpr bse q18.2.1 q18.2.2.1 q18.2.2.2 (-q1.2.2) _ _ _ h hP hD hS (lv_sub hl [0, 1, 2, 3, 5, 6, 7] rfl)
      have hL18 : ∀ (n : Nat) (z18 : (Nat → Int64) × Int32 × Int64 × Int32 × Int32) (H : Heap) (locs : List Loc) (ls : Array Slot), lp (f_X5_looksAt_b140 row p0 p1 p2 q1.2.2) n z18 = some q18 → va_P G vwCl (wM cI cJ aM row tot q1.1 goa bes z18.1 txt par sav bwh bpr bse len mat ask hh ++ ([] : va_W)) H → va_D A (wM cI cJ aM row tot q1.1 goa bes z18.1 txt par sav bwh bpr bse len mat ask hh ++ ([] : va_W)) → va_S A s.heap H locs → lv_has ls 14 [(0, .ref (aM 0)), (1, .int p0), (2, .int p1), (3, .int p2), (4, .long q1.2.2), (6, .int z18.2.1), (7, .long z18.2.2.1), (9, .int z18.2.2.2.1), (10, .int z18.2.2.2.2)] → W p l ev ({ frames := 5, cells := 0, slots := 0, locals := 110 } : Room) s m ([.ref (aM 0), .int p0, .int p1, .int p2] : List Value).toArray below meth c H locs 0 0 (MQ below (qV G (ty5 cI cJ cZ cO cA) A (wM cI cJ aM row tot res.1 goa res.2.1 res.2.2.1 txt par sav res.2.2.2.1 res.2.2.2.2.1 res.2.2.2.2.2 len mat ask hh ++ ([] : va_W))) ([.ref (aM 0), .int p0, .int p1, .int p2] : List Value).toArray s 0 0 A) (F0 m 140 ls []) := by
        intro n
        induction n with
        | zero => intro z18 H locs ls h; cases h
        | succ n ih18 =>
          intro z18 H locs ls h hP hD hS hl
          obtain ⟨o18, h, h18⟩ := lp_s h
          unfold f_X5_looksAt_b140 at h
          refine lv_iload hx hb dX5_looksAt_140 (lv_at hl 8 rfl) ?_
          refine lv_iconst (v := 3) hx hb dX5_looksAt_142 (by decide) ?_
          refine lv_icmp_ge (tgt := 302) hx hb dX5_looksAt_143 (by decide) (fun c19 => ?_) (fun c19 => ?_)
          · replace h := (if_pos c19).symm.trans h
            rw [← Option.some.inj h] at h18
            exact hX18_0 (z18.1, z18.2.1, z18.2.2.1, z18.2.2.2.1) _ _ _ (lp_x h18) hP hD hS (lv_sub hl [0, 1, 2, 3, 4, 5, 6, 7] rfl)
          · replace h := (if_neg c19).symm.trans h
            refine lv_iload_n hx hb dX5_looksAt_146 rfl (lv_at hl 1 rfl) ?_
            refine lv_iload_n hx hb dX5_looksAt_147 rfl (lv_at hl 2 rfl) ?_
            refine lv_iload_n hx hb dX5_looksAt_148 rfl (lv_at hl 3 rfl) ?_
            refine lv_iload hx hb dX5_looksAt_149 (lv_at hl 8 rfl) ?_
            obtain ⟨q20, hq20, h⟩ := bd_s h
            refine kSi (n := 4) (As := [.int p0, .int p1, .int p2, .int z18.2.2.2.2]) (rest := []) hx hb hml hown hts (c_X5_member l G cI cJ cZ cO cA e _ p0 p1 p2 z18.2.2.2.2 hq20) (tb_S kw761 kw762 kw7 kw763) rfl rfl (by decide +kernel) ⟨Nat.le_of_ble_eq_true rfl, Nat.le_of_ble_eq_true rfl⟩ hK hP hD hS hA hE rfl rfl hl.1 (Nat.le_of_ble_eq_true rfl) ⟨Nat.zero_le _, Nat.zero_le _⟩ dX5_looksAt_151 (fun H locs hP hD hS => ?_)
            refine lv_istore (lv' := [(11, .int q20), (0, .ref (aM 0)), (1, .int p0), (2, .int p1), (3, .int p2), (4, .long q1.2.2), (6, .int z18.2.1), (7, .long z18.2.2.1), (9, .int z18.2.2.2.1), (10, .int z18.2.2.2.2)]) hx hb dX5_looksAt_154 hl (by decide) rfl (fun ls hl => ?_)
            refine lv_aload_n hx hb dX5_looksAt_156 rfl (lv_at hl 1 rfl) ?_
            refine va_get (D := G) (ci := 5) (v := .ref (aM 6)) (C := RX5) (T := TX5) (N := 16) hx hb hts uX5 hown hK hP 0 rfl rfl 9 (by decide) (hts _ kw588) (fun _ h9 => h9) rfl dX5_looksAt_157 ?_
            refine lv_iload hx hb dX5_looksAt_160 (lv_at hl 9 rfl) ?_
            refine lv_lload hx hb dX5_looksAt_162 (lv_at hl 5 rfl) ?_
            refine lv_lconst (v := 0) hx hb dX5_looksAt_164 (by decide) ?_
            refine W.lcmp hx hb dX5_looksAt_165 ?_
            have hJ22 : ∀ (tic_22 : Nat → Int64) (v6_22 : Int32) (v7_22 : Int64) (v9_22 : Int32) (v10_22 : Int32) (v11_22 : Int32) (t0_22 : Int64) (t1_22 : Int32) (H : Heap) (locs : List Loc) (ls : Array Slot), f_X5_looksAt_j187 row tic_22 q1.2.2 v6_22 v7_22 v9_22 v10_22 v11_22 t0_22 t1_22 = some o18 → va_P G vwCl (wM cI cJ aM row tot q1.1 goa bes tic_22 txt par sav bwh bpr bse len mat ask hh ++ ([] : va_W)) H → va_D A (wM cI cJ aM row tot q1.1 goa bes tic_22 txt par sav bwh bpr bse len mat ask hh ++ ([] : va_W)) → va_S A s.heap H locs → lv_has ls 14 [(0, .ref (aM 0)), (1, .int p0), (2, .int p1), (3, .int p2), (4, .long q1.2.2), (6, .int v6_22), (7, .long v7_22), (9, .int v9_22), (10, .int v10_22), (11, .int v11_22)] → W p l ev ({ frames := 5, cells := 0, slots := 0, locals := 110 } : Room) s m ([.ref (aM 0), .int p0, .int p1, .int p2] : List Value).toArray below meth c H locs 0 0 (MQ below (qV G (ty5 cI cJ cZ cO cA) A (wM cI cJ aM row tot res.1 goa res.2.1 res.2.2.1 txt par sav res.2.2.2.1 res.2.2.2.2.1 res.2.2.2.2.2 len mat ask hh ++ ([] : va_W))) ([.ref (aM 0), .int p0, .int p1, .int p2] : List Value).toArray s 0 0 A) (F0 m 187 ls [.long t0_22, .int t1_22, .ref (aM 6)]) := by
              intro tic_22 v6_22 v7_22 v9_22 v10_22 v11_22 t0_22 t1_22 H locs ls h hP hD hS hl
              unfold f_X5_looksAt_j187 at h
              obtain ⟨g23, h⟩ := gd_s h
              refine va_last hx hb hK hP hD hS 6 1 rfl rfl (ib_in g23) dX5_looksAt_187 (fun H locs hP hD hS => ?_)
              have hP : va_P G vwCl (wM cI cJ aM row tot q1.1 goa bes (vp_updL tic_22 t1_22.toNatClampNeg t0_22) txt par sav bwh bpr bse len mat ask hh ++ ([] : va_W)) H := hP
              have hD : va_D A (wM cI cJ aM row tot q1.1 goa bes (vp_updL tic_22 t1_22.toNatClampNeg t0_22) txt par sav bwh bpr bse len mat ask hh ++ ([] : va_W)) := hD
              refine lv_iload hx hb dX5_looksAt_188 (lv_at hl 7 rfl) ?_
              have hJ25 : ∀ (tic_25 : Nat → Int64) (v6_25 : Int32) (v7_25 : Int64) (v10_25 : Int32) (v11_25 : Int32) (t0_25 : Int32) (H : Heap) (locs : List Loc) (ls : Array Slot), f_X5_looksAt_j240 row tic_25 v6_25 v7_25 v10_25 v11_25 t0_25 = some o18 → va_P G vwCl (wM cI cJ aM row tot q1.1 goa bes tic_25 txt par sav bwh bpr bse len mat ask hh ++ ([] : va_W)) H → va_D A (wM cI cJ aM row tot q1.1 goa bes tic_25 txt par sav bwh bpr bse len mat ask hh ++ ([] : va_W)) → va_S A s.heap H locs → lv_has ls 14 [(0, .ref (aM 0)), (1, .int p0), (2, .int p1), (3, .int p2), (4, .long q1.2.2), (6, .int v6_25), (7, .long v7_25), (10, .int v10_25), (11, .int v11_25)] → W p l ev ({ frames := 5, cells := 0, slots := 0, locals := 110 } : Room) s m ([.ref (aM 0), .int p0, .int p1, .int p2] : List Value).toArray below meth c H locs 0 0 (MQ below (qV G (ty5 cI cJ cZ cO cA) A (wM cI cJ aM row tot res.1 goa res.2.1 res.2.2.1 txt par sav res.2.2.2.1 res.2.2.2.2.1 res.2.2.2.2.2 len mat ask hh ++ ([] : va_W))) ([.ref (aM 0), .int p0, .int p1, .int p2] : List Value).toArray s 0 0 A) (F0 m 240 ls [.int t0_25]) := by
                intro tic_25 v6_25 v7_25 v10_25 v11_25 t0_25 H locs ls h hP hD hS hl
                unfold f_X5_looksAt_j240 at h
                refine lv_istore (lv' := [(9, .int t0_25), (0, .ref (aM 0)), (1, .int p0), (2, .int p1), (3, .int p2), (4, .long q1.2.2), (6, .int v6_25), (7, .long v7_25), (10, .int v10_25), (11, .int v11_25)]) hx hb dX5_looksAt_240 hl (by decide) rfl (fun ls hl => ?_)
                refine lv_iload hx hb dX5_looksAt_242 (lv_at hl 6 rfl) ?_
                refine lv_aload_n hx hb dX5_looksAt_244 rfl (lv_at hl 1 rfl) ?_
                refine va_get (D := G) (ci := 5) (v := .ref (aM 6)) (C := RX5) (T := TX5) (N := 16) hx hb hts uX5 hown hK hP 0 rfl rfl 9 (by decide) (hts _ kw588) (fun _ h9 => h9) rfl dX5_looksAt_245 ?_
                refine lv_iload hx hb dX5_looksAt_248 (lv_at hl 8 rfl) ?_
                obtain ⟨g26, h⟩ := gd_s h
                refine va_lald hx hb hK hP 6 1 rfl rfl (ib_in g26) dX5_looksAt_250 ?_
                refine lv_lconst (v := 0) hx hb dX5_looksAt_251 (by decide) ?_
                refine W.lcmp hx hb dX5_looksAt_252 ?_
                have hJ28 : ∀ (tic_28 : Nat → Int64) (v7_28 : Int64) (v9_28 : Int32) (v10_28 : Int32) (v11_28 : Int32) (t0_28 : Int32) (t1_28 : Int32) (H : Heap) (locs : List Loc) (ls : Array Slot), f_X5_looksAt_j264 row tic_28 v7_28 v9_28 v10_28 v11_28 t0_28 t1_28 = some o18 → va_P G vwCl (wM cI cJ aM row tot q1.1 goa bes tic_28 txt par sav bwh bpr bse len mat ask hh ++ ([] : va_W)) H → va_D A (wM cI cJ aM row tot q1.1 goa bes tic_28 txt par sav bwh bpr bse len mat ask hh ++ ([] : va_W)) → va_S A s.heap H locs → lv_has ls 14 [(0, .ref (aM 0)), (1, .int p0), (2, .int p1), (3, .int p2), (4, .long q1.2.2), (7, .long v7_28), (9, .int v9_28), (10, .int v10_28), (11, .int v11_28)] → W p l ev ({ frames := 5, cells := 0, slots := 0, locals := 110 } : Room) s m ([.ref (aM 0), .int p0, .int p1, .int p2] : List Value).toArray below meth c H locs 0 0 (MQ below (qV G (ty5 cI cJ cZ cO cA) A (wM cI cJ aM row tot res.1 goa res.2.1 res.2.2.1 txt par sav res.2.2.2.1 res.2.2.2.2.1 res.2.2.2.2.2 len mat ask hh ++ ([] : va_W))) ([.ref (aM 0), .int p0, .int p1, .int p2] : List Value).toArray s 0 0 A) (F0 m 264 ls [.int t0_28, .int t1_28]) := by
                  intro tic_28 v7_28 v9_28 v10_28 v11_28 t0_28 t1_28 H locs ls h hP hD hS hl
                  unfold f_X5_looksAt_j264 at h
                  refine lv_ior hx hb dX5_looksAt_264 ?_
                  refine lv_istore (lv' := [(6, .int (t1_28 ||| t0_28)), (0, .ref (aM 0)), (1, .int p0), (2, .int p1), (3, .int p2), (4, .long q1.2.2), (7, .long v7_28), (9, .int v9_28), (10, .int v10_28), (11, .int v11_28)]) hx hb dX5_looksAt_265 hl (by decide) rfl (fun ls hl => ?_)
                  refine lv_lload hx hb dX5_looksAt_267 (lv_at hl 6 rfl) ?_
                  refine lv_aload_n hx hb dX5_looksAt_269 rfl (lv_at hl 1 rfl) ?_
                  refine va_get (D := G) (ci := 5) (v := .ref (aM 6)) (C := RX5) (T := TX5) (N := 16) hx hb hts uX5 hown hK hP 0 rfl rfl 9 (by decide) (hts _ kw588) (fun _ h9 => h9) rfl dX5_looksAt_270 ?_
                  refine lv_iload hx hb dX5_looksAt_273 (lv_at hl 8 rfl) ?_
                  obtain ⟨g29, h⟩ := gd_s h
                  refine va_lald hx hb hK hP 6 1 rfl rfl (ib_in g29) dX5_looksAt_275 ?_
                  refine lv_aload_n hx hb dX5_looksAt_276 rfl (lv_at hl 1 rfl) ?_
                  refine lv_iload hx hb dX5_looksAt_277 (lv_at hl 9 rfl) ?_
                  refine lv_iconst (v := 3) hx hb dX5_looksAt_279 (by decide) ?_
                  obtain ⟨q30, hq30, h⟩ := bd_s h
                  refine kVi (n := 2) (C := RX5) (ws' := wM cI cJ aM row tot q1.1 goa bes tic_28 txt par sav bwh bpr bse len mat ask hh ++ ([] : va_W)) (As := [.int v11_28, .int 3]) (rest := [.long (tic_28 v10_28.toNatClampNeg), .long v7_28]) hx hb hml hown hts (c_X5_of l G cI cJ cZ cO cA e aM _ row tot q1.1 goa bes tic_28 txt par sav bwh bpr bse len mat ask hh v11_28 3 hq30) (tb_V kw657 kw659 kv17 kw7 kw660) rfl rfl (by decide +kernel) ⟨Nat.le_of_ble_eq_true rfl, Nat.le_of_ble_eq_true rfl⟩ hK hP hD hS hA hE 0 rfl rfl [0, 1, 2, 3, 4, 5, 6, 7, 8] [] rfl rfl rfl 9 ⟨rfl, rfl⟩ (by decide +kernel) (by decide +kernel) rfl rfl hl.1 (Nat.le_of_ble_eq_true rfl) ⟨Nat.zero_le _, Nat.zero_le _⟩ dX5_looksAt_280 (fun H locs hP hD hS => ?_)
                  refine lv_i2l (v := q30.toInt64) hx hb dX5_looksAt_283 rfl ?_
                  refine lv_lmul hx hb dX5_looksAt_284 ?_
                  refine lv_aload_n hx hb dX5_looksAt_285 rfl (lv_at hl 1 rfl) ?_
                  refine lv_iload hx hb dX5_looksAt_286 (lv_at hl 9 rfl) ?_
                  obtain ⟨q31, hq31, h⟩ := bd_s h
                  refine kVi (n := 1) (C := RX5) (ws' := wM cI cJ aM row tot q1.1 goa bes tic_28 txt par sav bwh bpr bse len mat ask hh ++ ([] : va_W)) (As := [.int v11_28]) (rest := [.long ((tic_28 v10_28.toNatClampNeg) * q30.toInt64), .long v7_28]) hx hb hml hown hts (c_X5_dear l G cI cJ cZ cO cA e aM _ row tot q1.1 goa bes tic_28 txt par sav bwh bpr bse len mat ask hh v11_28 hq31) (tb_V kw765 kw767 kv30 kw7 kw768) rfl rfl (by decide +kernel) ⟨Nat.le_of_ble_eq_true rfl, Nat.le_of_ble_eq_true rfl⟩ hK hP hD hS hA hE 0 rfl rfl [0, 1, 2, 3, 4, 5, 6, 7, 8] [] rfl rfl rfl 9 ⟨rfl, rfl⟩ (by decide +kernel) (by decide +kernel) rfl rfl hl.1 (Nat.le_of_ble_eq_true rfl) ⟨Nat.zero_le _, Nat.zero_le _⟩ dX5_looksAt_288 (fun H locs hP hD hS => ?_)
                  refine lv_i2l (v := q31.toInt64) hx hb dX5_looksAt_291 rfl ?_
                  refine lv_lmul hx hb dX5_looksAt_292 ?_
                  refine lv_ladd hx hb dX5_looksAt_293 ?_
                  refine lv_lstore (lv' := [(7, .long (v7_28 + (((tic_28 v10_28.toNatClampNeg) * q30.toInt64) * q31.toInt64))), (6, .int (t1_28 ||| t0_28)), (0, .ref (aM 0)), (1, .int p0), (2, .int p1), (3, .int p2), (4, .long q1.2.2), (9, .int v9_28), (10, .int v10_28), (11, .int v11_28)]) hx hb dX5_looksAt_294 hl (by decide) rfl (fun ls hl => ?_)
                  refine lv_iinc (v := (v10_28 + 1)) (lv' := [(10, .int (v10_28 + 1)), (7, .long (v7_28 + (((tic_28 v10_28.toNatClampNeg) * q30.toInt64) * q31.toInt64))), (6, .int (t1_28 ||| t0_28)), (0, .ref (aM 0)), (1, .int p0), (2, .int p1), (3, .int p2), (4, .long q1.2.2), (9, .int v9_28), (11, .int v11_28)]) hx hb dX5_looksAt_296 hl (k := 8) rfl rfl (by decide) rfl (fun ls hl => ?_)
                  refine lv_goto (tgt := 140) hx hb dX5_looksAt_299 (by decide) ?_
                  rw [← Option.some.inj h] at h18
                  exact ih18 (tic_28, (t1_28 ||| t0_28), (v7_28 + (((tic_28 v10_28.toNatClampNeg) * q30.toInt64) * q31.toInt64)), v9_28, (v10_28 + 1)) _ _ _ (lp_b h18) hP hD hS (lv_sub hl [3, 4, 5, 6, 7, 2, 1, 8, 0] rfl)
                refine lv_if_le (tgt := 263) hx hb dX5_looksAt_253 (by decide) (fun c27 => ?_) (fun c27 => ?_)
                · replace h := (if_pos c27).symm.trans h
                  refine lv_iconst (v := 0) hx hb dX5_looksAt_263 (by decide) ?_
                  exact hJ28 tic_25 v7_25 t0_25 v10_25 v11_25 0 v6_25 _ _ _ h hP hD hS (lv_sub hl [1, 2, 3, 4, 5, 7, 0, 8, 9] rfl)
                · replace h := (if_neg c27).symm.trans h
                  refine lv_iconst (v := 1) hx hb dX5_looksAt_256 (by decide) ?_
                  refine lv_iload hx hb dX5_looksAt_257 (lv_at hl 9 rfl) ?_
                  refine lv_ishl hx hb dX5_looksAt_259 ?_
                  refine lv_goto (tgt := 264) hx hb dX5_looksAt_260 (by decide) ?_
                  exact hJ28 tic_25 v7_25 t0_25 v10_25 v11_25 (1 <<< (v11_25 &&& 31)) v6_25 _ _ _ h hP hD hS (lv_sub hl [1, 2, 3, 4, 5, 7, 0, 8, 9] rfl)
              have hJ32 : ∀ (tic_32 : Nat → Int64) (v6_32 : Int32) (v7_32 : Int64) (v10_32 : Int32) (v11_32 : Int32) (H : Heap) (locs : List Loc) (ls : Array Slot), f_X5_looksAt_j239 row tic_32 v6_32 v7_32 v10_32 v11_32 = some o18 → va_P G vwCl (wM cI cJ aM row tot q1.1 goa bes tic_32 txt par sav bwh bpr bse len mat ask hh ++ ([] : va_W)) H → va_D A (wM cI cJ aM row tot q1.1 goa bes tic_32 txt par sav bwh bpr bse len mat ask hh ++ ([] : va_W)) → va_S A s.heap H locs → lv_has ls 14 [(0, .ref (aM 0)), (1, .int p0), (2, .int p1), (3, .int p2), (4, .long q1.2.2), (6, .int v6_32), (7, .long v7_32), (10, .int v10_32), (11, .int v11_32)] → W p l ev ({ frames := 5, cells := 0, slots := 0, locals := 110 } : Room) s m ([.ref (aM 0), .int p0, .int p1, .int p2] : List Value).toArray below meth c H locs 0 0 (MQ below (qV G (ty5 cI cJ cZ cO cA) A (wM cI cJ aM row tot res.1 goa res.2.1 res.2.2.1 txt par sav res.2.2.2.1 res.2.2.2.2.1 res.2.2.2.2.2 len mat ask hh ++ ([] : va_W))) ([.ref (aM 0), .int p0, .int p1, .int p2] : List Value).toArray s 0 0 A) (F0 m 239 ls []) := by
                intro tic_32 v6_32 v7_32 v10_32 v11_32 H locs ls h hP hD hS hl
                unfold f_X5_looksAt_j239 at h
                refine lv_iconst (v := 0) hx hb dX5_looksAt_239 (by decide) ?_
                exact hJ25 tic_32 v6_32 v7_32 v10_32 v11_32 0 _ _ _ h hP hD hS (lv_sub hl [0, 1, 2, 3, 4, 5, 6, 7, 8] rfl)
              refine lv_if_eq (tgt := 239) hx hb dX5_looksAt_190 (by decide) (fun c24 => ?_) (fun c24 => ?_)
              · replace h := (if_pos c24).symm.trans h
                exact hJ32 (vp_updL tic_22 t1_22.toNatClampNeg t0_22) v6_22 v7_22 v10_22 v11_22 _ _ _ h hP hD hS (lv_sub hl [0, 1, 2, 3, 4, 5, 6, 8, 9] rfl)
              · replace h := (if_neg c24).symm.trans h
                refine lv_aload_n hx hb dX5_looksAt_193 rfl (lv_at hl 0 rfl) ?_
                refine va_get (D := G) (ci := 5) (v := .ref (aM 6)) (C := RX5) (T := TX5) (N := 16) hx hb hts uX5 hown hK hP 0 rfl rfl 9 (by decide) (hts _ kw588) (fun _ h9 => h9) rfl dX5_looksAt_194 ?_
                refine lv_iload hx hb dX5_looksAt_197 (lv_at hl 8 rfl) ?_
                obtain ⟨g33, h⟩ := gd_s h
                refine va_lald hx hb hK hP 6 1 rfl rfl (ib_in g33) dX5_looksAt_199 ?_
                refine lv_lconst (v := 0) hx hb dX5_looksAt_200 (by decide) ?_
                refine W.lcmp hx hb dX5_looksAt_201 ?_
                refine lv_if_lt (tgt := 239) hx hb dX5_looksAt_202 (by decide) (fun c34 => ?_) (fun c34 => ?_)
                · replace h := (if_pos c34).symm.trans h
                  exact hJ32 (vp_updL tic_22 t1_22.toNatClampNeg t0_22) v6_22 v7_22 v10_22 v11_22 _ _ _ h hP hD hS (lv_sub hl [0, 1, 2, 3, 4, 5, 6, 8, 9] rfl)
                · replace h := (if_neg c34).symm.trans h
                  refine lv_aload_n hx hb dX5_looksAt_205 rfl (lv_at hl 0 rfl) ?_
                  refine va_get (D := G) (ci := 5) (v := .ref (aM 6)) (C := RX5) (T := TX5) (N := 16) hx hb hts uX5 hown hK hP 0 rfl rfl 9 (by decide) (hts _ kw588) (fun _ h9 => h9) rfl dX5_looksAt_206 ?_
                  refine lv_iload hx hb dX5_looksAt_209 (lv_at hl 8 rfl) ?_
                  obtain ⟨g35, h⟩ := gd_s h
                  refine va_lald hx hb hK hP 6 1 rfl rfl (ib_in g35) dX5_looksAt_211 ?_
                  refine lv_ldc2 (v := 20) hx hb hown (hts _ kw764) dX5_looksAt_212 ?_
                  refine lv_lload hx hb dX5_looksAt_215 (lv_at hl 4 rfl) ?_
                  refine lv_lconst (v := 0) hx hb dX5_looksAt_217 (by decide) ?_
                  refine W.lcmp hx hb dX5_looksAt_218 ?_
                  have hJ37 : ∀ (tic_37 : Nat → Int64) (v6_37 : Int32) (v7_37 : Int64) (v10_37 : Int32) (v11_37 : Int32) (t0_37 : Int64) (t1_37 : Int64) (t2_37 : Int64) (H : Heap) (locs : List Loc) (ls : Array Slot), f_X5_looksAt_j230 row tic_37 v6_37 v7_37 v10_37 v11_37 t0_37 t1_37 t2_37 = some o18 → va_P G vwCl (wM cI cJ aM row tot q1.1 goa bes tic_37 txt par sav bwh bpr bse len mat ask hh ++ ([] : va_W)) H → va_D A (wM cI cJ aM row tot q1.1 goa bes tic_37 txt par sav bwh bpr bse len mat ask hh ++ ([] : va_W)) → va_S A s.heap H locs → lv_has ls 14 [(0, .ref (aM 0)), (1, .int p0), (2, .int p1), (3, .int p2), (4, .long q1.2.2), (6, .int v6_37), (7, .long v7_37), (10, .int v10_37), (11, .int v11_37)] → W p l ev ({ frames := 5, cells := 0, slots := 0, locals := 110 } : Room) s m ([.ref (aM 0), .int p0, .int p1, .int p2] : List Value).toArray below meth c H locs 0 0 (MQ below (qV G (ty5 cI cJ cZ cO cA) A (wM cI cJ aM row tot res.1 goa res.2.1 res.2.2.1 txt par sav res.2.2.2.1 res.2.2.2.2.1 res.2.2.2.2.2 len mat ask hh ++ ([] : va_W))) ([.ref (aM 0), .int p0, .int p1, .int p2] : List Value).toArray s 0 0 A) (F0 m 230 ls [.long t0_37, .long t1_37, .long t2_37]) := by
                    intro tic_37 v6_37 v7_37 v10_37 v11_37 t0_37 t1_37 t2_37 H locs ls h hP hD hS hl
                    unfold f_X5_looksAt_j230 at h
                    refine lv_lmul hx hb dX5_looksAt_230 ?_
                    refine W.lcmp hx hb dX5_looksAt_231 ?_
                    refine lv_if_gt (tgt := 239) hx hb dX5_looksAt_232 (by decide) (fun c38 => ?_) (fun c38 => ?_)
                    · replace h := (if_pos c38).symm.trans h
                      exact hJ32 tic_37 v6_37 v7_37 v10_37 v11_37 _ _ _ h hP hD hS (lv_sub hl [0, 1, 2, 3, 4, 5, 6, 7, 8] rfl)
                    · replace h := (if_neg c38).symm.trans h
                      refine lv_iconst (v := 1) hx hb dX5_looksAt_235 (by decide) ?_
                      refine lv_goto (tgt := 240) hx hb dX5_looksAt_236 (by decide) ?_
                      exact hJ25 tic_37 v6_37 v7_37 v10_37 v11_37 1 _ _ _ h hP hD hS (lv_sub hl [0, 1, 2, 3, 4, 5, 6, 7, 8] rfl)
                  refine lv_if_ge (tgt := 228) hx hb dX5_looksAt_219 (by decide) (fun c36 => ?_) (fun c36 => ?_)
                  · replace h := (if_pos c36).symm.trans h
                    refine lv_lload hx hb dX5_looksAt_228 (lv_at hl 4 rfl) ?_
                    exact hJ37 (vp_updL tic_22 t1_22.toNatClampNeg t0_22) v6_22 v7_22 v10_22 v11_22 q1.2.2 20 ((vp_updL tic_22 t1_22.toNatClampNeg t0_22) v10_22.toNatClampNeg) _ _ _ h hP hD hS (lv_sub hl [0, 1, 2, 3, 4, 5, 6, 8, 9] rfl)
                  · replace h := (if_neg c36).symm.trans h
                    refine lv_lload hx hb dX5_looksAt_222 (lv_at hl 4 rfl) ?_
                    refine lv_lneg hx hb dX5_looksAt_224 ?_
                    refine lv_goto (tgt := 230) hx hb dX5_looksAt_225 (by decide) ?_
                    exact hJ37 (vp_updL tic_22 t1_22.toNatClampNeg t0_22) v6_22 v7_22 v10_22 v11_22 (-q1.2.2) 20 ((vp_updL tic_22 t1_22.toNatClampNeg t0_22) v10_22.toNatClampNeg) _ _ _ h hP hD hS (lv_sub hl [0, 1, 2, 3, 4, 5, 6, 8, 9] rfl)
            refine lv_if_ge (tgt := 180) hx hb dX5_looksAt_166 (by decide) (fun c21 => ?_) (fun c21 => ?_)
            · replace h := (if_pos c21).symm.trans h
              refine lv_aload_n hx hb dX5_looksAt_180 rfl (lv_at hl 1 rfl) ?_
              refine va_get (D := G) (ci := 5) (v := .ref (aM 6)) (C := RX5) (T := TX5) (N := 16) hx hb hts uX5 hown hK hP 0 rfl rfl 9 (by decide) (hts _ kw588) (fun _ h9 => h9) rfl dX5_looksAt_181 ?_
              refine lv_iload hx hb dX5_looksAt_184 (lv_at hl 9 rfl) ?_
              obtain ⟨g39, h⟩ := gd_s h
              refine va_lald hx hb hK hP 6 1 rfl rfl (ib_in g39) dX5_looksAt_186 ?_
              exact hJ22 z18.1 z18.2.1 z18.2.2.1 z18.2.2.2.1 z18.2.2.2.2 q20 (z18.1 z18.2.2.2.2.toNatClampNeg) z18.2.2.2.2 _ _ _ h hP hD hS (lv_sub hl [1, 2, 3, 4, 5, 6, 7, 8, 9, 0] rfl)
            · replace h := (if_neg c21).symm.trans h
              refine lv_aload_n hx hb dX5_looksAt_169 rfl (lv_at hl 1 rfl) ?_
              refine va_get (D := G) (ci := 5) (v := .ref (aM 6)) (C := RX5) (T := TX5) (N := 16) hx hb hts uX5 hown hK hP 0 rfl rfl 9 (by decide) (hts _ kw588) (fun _ h9 => h9) rfl dX5_looksAt_170 ?_
              refine lv_iload hx hb dX5_looksAt_173 (lv_at hl 9 rfl) ?_
              obtain ⟨g40, h⟩ := gd_s h
              refine va_lald hx hb hK hP 6 1 rfl rfl (ib_in g40) dX5_looksAt_175 ?_
              refine lv_lneg hx hb dX5_looksAt_176 ?_
              refine lv_goto (tgt := 187) hx hb dX5_looksAt_177 (by decide) ?_
              exact hJ22 z18.1 z18.2.1 z18.2.2.1 z18.2.2.2.1 z18.2.2.2.2 q20 (-(z18.1 z18.2.2.2.2.toNatClampNeg)) z18.2.2.2.2 _ _ _ h hP hD hS (lv_sub hl [1, 2, 3, 4, 5, 6, 7, 8, 9, 0] rfl)
      exact hL18 _ (q1.2.1, 0, 0, 1, 0) _ _ _ hq18 hP hD hS (lv_sub hl [4, 5, 6, 7, 8, 3, 2, 1, 0] rfl)
    · replace h := (if_pos c17).symm.trans h
      rw [← Option.some.inj h]
      exact krv hx hb hr hlk hP hD hS hK dX5_looksAt_127
  have hL1 : ∀ (n : Nat) (z1 : (Nat → Int64) × (Nat → Int64) × Int64 × Int32) (H : Heap) (locs : List Loc) (ls : Array Slot), lp (f_X5_looksAt_b6 row goa p0 p1 p2) n z1 = some q1 → va_P G vwCl (wM cI cJ aM row tot z1.1 goa bes z1.2.1 txt par sav bwh bpr bse len mat ask hh ++ ([] : va_W)) H → va_D A (wM cI cJ aM row tot z1.1 goa bes z1.2.1 txt par sav bwh bpr bse len mat ask hh ++ ([] : va_W)) → va_S A s.heap H locs → lv_has ls 14 [(0, .ref (aM 0)), (1, .int p0), (2, .int p1), (3, .int p2), (4, .long z1.2.2.1), (6, .int z1.2.2.2)] → W p l ev ({ frames := 5, cells := 0, slots := 0, locals := 110 } : Room) s m ([.ref (aM 0), .int p0, .int p1, .int p2] : List Value).toArray below meth c H locs 0 0 (MQ below (qV G (ty5 cI cJ cZ cO cA) A (wM cI cJ aM row tot res.1 goa res.2.1 res.2.2.1 txt par sav res.2.2.2.1 res.2.2.2.2.1 res.2.2.2.2.2 len mat ask hh ++ ([] : va_W))) ([.ref (aM 0), .int p0, .int p1, .int p2] : List Value).toArray s 0 0 A) (F0 m 6 ls []) := by
    intro n
    induction n with
    | zero => intro z1 H locs ls h; cases h
    | succ n ih1 =>
      intro z1 H locs ls h hP hD hS hl
      obtain ⟨o1, h, h1⟩ := lp_s h
      unfold f_X5_looksAt_b6 at h
      refine lv_iload hx hb dX5_looksAt_6 (lv_at hl 5 rfl) ?_
      refine lv_iconst (v := 3) hx hb dX5_looksAt_8 (by decide) ?_
      refine lv_icmp_ge (tgt := 120) hx hb dX5_looksAt_9 (by decide) (fun c2 => ?_) (fun c2 => ?_)
      · replace h := (if_pos c2).symm.trans h
        rw [← Option.some.inj h] at h1
        exact hX1_0 (z1.1, z1.2.1, z1.2.2.1) _ _ _ (lp_x h1) hP hD hS (lv_sub hl [0, 1, 2, 3, 4] rfl)
      · replace h := (if_neg c2).symm.trans h
        refine lv_iconst (v := 0) hx hb dX5_looksAt_12 (by decide) ?_
        refine lv_istore (lv' := [(7, .int 0), (0, .ref (aM 0)), (1, .int p0), (2, .int p1), (3, .int p2), (4, .long z1.2.2.1), (6, .int z1.2.2.2)]) hx hb dX5_looksAt_13 hl (by decide) rfl (fun ls hl => ?_)
        obtain ⟨q3, hq3, h⟩ := bd_s h
        have hX3_0 : ∀ (x3 : (Nat → Int64)) (H : Heap) (locs : List Loc) (ls : Array Slot), x3 = q3 → va_P G vwCl (wM cI cJ aM row tot x3 goa bes z1.2.1 txt par sav bwh bpr bse len mat ask hh ++ ([] : va_W)) H → va_D A (wM cI cJ aM row tot x3 goa bes z1.2.1 txt par sav bwh bpr bse len mat ask hh ++ ([] : va_W)) → va_S A s.heap H locs → lv_has ls 14 [(0, .ref (aM 0)), (1, .int p0), (2, .int p1), (3, .int p2), (4, .long z1.2.2.1), (6, .int z1.2.2.2)] → W p l ev ({ frames := 5, cells := 0, slots := 0, locals := 110 } : Room) s m ([.ref (aM 0), .int p0, .int p1, .int p2] : List Value).toArray below meth c H locs 0 0 (MQ below (qV G (ty5 cI cJ cZ cO cA) A (wM cI cJ aM row tot res.1 goa res.2.1 res.2.2.1 txt par sav res.2.2.2.1 res.2.2.2.2.1 res.2.2.2.2.2 len mat ask hh ++ ([] : va_W))) ([.ref (aM 0), .int p0, .int p1, .int p2] : List Value).toArray s 0 0 A) (F0 m 41 ls []) := by
          intro x3 H locs ls e3 hP hD hS hl
          replace e3 := e3.symm
          subst e3
          refine lv_iconst (v := 0) hx hb dX5_looksAt_41 (by decide) ?_
          refine lv_istore (lv' := [(7, .int 0), (0, .ref (aM 0)), (1, .int p0), (2, .int p1), (3, .int p2), (4, .long z1.2.2.1), (6, .int z1.2.2.2)]) hx hb dX5_looksAt_42 hl (by decide) rfl (fun ls hl => ?_)
          obtain ⟨q7, hq7, h⟩ := bd_s h
          have hX7_0 : ∀ (x7 : (Nat → Int64)) (H : Heap) (locs : List Loc) (ls : Array Slot), x7 = q7 → va_P G vwCl (wM cI cJ aM row tot x7 goa bes z1.2.1 txt par sav bwh bpr bse len mat ask hh ++ ([] : va_W)) H → va_D A (wM cI cJ aM row tot x7 goa bes z1.2.1 txt par sav bwh bpr bse len mat ask hh ++ ([] : va_W)) → va_S A s.heap H locs → lv_has ls 14 [(0, .ref (aM 0)), (1, .int p0), (2, .int p1), (3, .int p2), (4, .long z1.2.2.1), (6, .int z1.2.2.2)] → W p l ev ({ frames := 5, cells := 0, slots := 0, locals := 110 } : Room) s m ([.ref (aM 0), .int p0, .int p1, .int p2] : List Value).toArray below meth c H locs 0 0 (MQ below (qV G (ty5 cI cJ cZ cO cA) A (wM cI cJ aM row tot res.1 goa res.2.1 res.2.2.1 txt par sav res.2.2.2.1 res.2.2.2.2.1 res.2.2.2.2.2 len mat ask hh ++ ([] : va_W))) ([.ref (aM 0), .int p0, .int p1, .int p2] : List Value).toArray s 0 0 A) (F0 m 80 ls []) := by
            intro x7 H locs ls e7 hP hD hS hl
            replace e7 := e7.symm
            subst e7
            refine lv_aload_n hx hb dX5_looksAt_80 rfl (lv_at hl 0 rfl) ?_
            obtain ⟨q12, hq12, h⟩ := bd_s h
            refine kVl (n := 0) (C := RX5) (ws' := wM cI cJ aM row tot q7 goa bes z1.2.1 txt par sav bwh bpr bse len mat ask hh ++ ([] : va_W)) (As := []) (rest := []) hx hb hml hown hts (c_X5_determined l G cI cJ cZ cO cA e aM _ row tot q7 goa bes z1.2.1 txt par sav bwh bpr bse len mat ask hh hq12) (tb_V kw700 kw702 kv23 kw7 kw703) rfl rfl (by decide +kernel) ⟨Nat.le_of_ble_eq_true rfl, Nat.le_of_ble_eq_true rfl⟩ hK hP hD hS hA hE 0 rfl rfl [0, 1, 2, 3, 4, 5, 6, 7, 8] [] rfl rfl rfl 9 ⟨rfl, rfl⟩ (by decide +kernel) (by decide +kernel) rfl rfl hl.1 (Nat.le_of_ble_eq_true rfl) ⟨Nat.zero_le _, Nat.zero_le _⟩ dX5_looksAt_81 (fun H locs hP hD hS => ?_)
            refine lv_lstore (lv' := [(7, .long q12), (0, .ref (aM 0)), (1, .int p0), (2, .int p1), (3, .int p2), (4, .long z1.2.2.1), (6, .int z1.2.2.2)]) hx hb dX5_looksAt_84 hl (by decide) rfl (fun ls hl => ?_)
            refine lv_iload hx hb dX5_looksAt_86 (lv_at hl 6 rfl) ?_
            have hJ14 : ∀ (tab_14 : Nat → Int64) (tic_14 : Nat → Int64) (v6_14 : Int32) (v7_14 : Int64) (t0_14 : Int64) (H : Heap) (locs : List Loc) (ls : Array Slot), f_X5_looksAt_j98 tab_14 tic_14 v6_14 v7_14 t0_14 = some o1 → va_P G vwCl (wM cI cJ aM row tot tab_14 goa bes tic_14 txt par sav bwh bpr bse len mat ask hh ++ ([] : va_W)) H → va_D A (wM cI cJ aM row tot tab_14 goa bes tic_14 txt par sav bwh bpr bse len mat ask hh ++ ([] : va_W)) → va_S A s.heap H locs → lv_has ls 14 [(0, .ref (aM 0)), (1, .int p0), (2, .int p1), (3, .int p2), (6, .int v6_14), (7, .long v7_14)] → W p l ev ({ frames := 5, cells := 0, slots := 0, locals := 110 } : Room) s m ([.ref (aM 0), .int p0, .int p1, .int p2] : List Value).toArray below meth c H locs 0 0 (MQ below (qV G (ty5 cI cJ cZ cO cA) A (wM cI cJ aM row tot res.1 goa res.2.1 res.2.2.1 txt par sav res.2.2.2.1 res.2.2.2.2.1 res.2.2.2.2.2 len mat ask hh ++ ([] : va_W))) ([.ref (aM 0), .int p0, .int p1, .int p2] : List Value).toArray s 0 0 A) (F0 m 98 ls [.long t0_14]) := by
              intro tab_14 tic_14 v6_14 v7_14 t0_14 H locs ls h hP hD hS hl
              unfold f_X5_looksAt_j98 at h
              refine lv_lstore (lv' := [(4, .long t0_14), (0, .ref (aM 0)), (1, .int p0), (2, .int p1), (3, .int p2), (6, .int v6_14), (7, .long v7_14)]) hx hb dX5_looksAt_98 hl (by decide) rfl (fun ls hl => ?_)
              refine lv_iload hx hb dX5_looksAt_100 (lv_at hl 5 rfl) ?_
              refine lv_if_lt (tgt := 114) hx hb dX5_looksAt_102 (by decide) (fun c15 => ?_) (fun c15 => ?_)
              · replace h := (if_pos c15).symm.trans h
                refine lv_iinc (v := (v6_14 + 1)) (lv' := [(6, .int (v6_14 + 1)), (4, .long t0_14), (0, .ref (aM 0)), (1, .int p0), (2, .int p1), (3, .int p2), (7, .long v7_14)]) hx hb dX5_looksAt_114 hl (k := 5) rfl rfl (by decide) rfl (fun ls hl => ?_)
                refine lv_goto (tgt := 6) hx hb dX5_looksAt_117 (by decide) ?_
                rw [← Option.some.inj h] at h1
                exact ih1 (tab_14, tic_14, t0_14, (v6_14 + 1)) _ _ _ (lp_b h1) hP hD hS (lv_sub hl [2, 3, 4, 5, 1, 0] rfl)
              · replace h := (if_neg c15).symm.trans h
                refine lv_aload_n hx hb dX5_looksAt_105 rfl (lv_at hl 1 rfl) ?_
                refine va_get (D := G) (ci := 5) (v := .ref (aM 6)) (C := RX5) (T := TX5) (N := 16) hx hb hts uX5 hown hK hP 0 rfl rfl 9 (by decide) (hts _ kw588) (fun _ h9 => h9) rfl dX5_looksAt_106 ?_
                refine lv_iload hx hb dX5_looksAt_109 (lv_at hl 5 rfl) ?_
                refine lv_lload hx hb dX5_looksAt_111 (lv_at hl 6 rfl) ?_
                obtain ⟨g16, h⟩ := gd_s h
                refine va_last hx hb hK hP hD hS 6 1 rfl rfl (ib_in g16) dX5_looksAt_113 (fun H locs hP hD hS => ?_)
                have hP : va_P G vwCl (wM cI cJ aM row tot tab_14 goa bes (vp_updL tic_14 v6_14.toNatClampNeg v7_14) txt par sav bwh bpr bse len mat ask hh ++ ([] : va_W)) H := hP
                have hD : va_D A (wM cI cJ aM row tot tab_14 goa bes (vp_updL tic_14 v6_14.toNatClampNeg v7_14) txt par sav bwh bpr bse len mat ask hh ++ ([] : va_W)) := hD
                refine lv_iinc (v := (v6_14 + 1)) (lv' := [(6, .int (v6_14 + 1)), (4, .long t0_14), (0, .ref (aM 0)), (1, .int p0), (2, .int p1), (3, .int p2), (7, .long v7_14)]) hx hb dX5_looksAt_114 hl (k := 5) rfl rfl (by decide) rfl (fun ls hl => ?_)
                refine lv_goto (tgt := 6) hx hb dX5_looksAt_117 (by decide) ?_
                rw [← Option.some.inj h] at h1
                exact ih1 (tab_14, (vp_updL tic_14 v6_14.toNatClampNeg v7_14), t0_14, (v6_14 + 1)) _ _ _ (lp_b h1) hP hD hS (lv_sub hl [2, 3, 4, 5, 1, 0] rfl)
            refine lv_if_ge (tgt := 96) hx hb dX5_looksAt_88 (by decide) (fun c13 => ?_) (fun c13 => ?_)
            · replace h := (if_pos c13).symm.trans h
              refine lv_lload hx hb dX5_looksAt_96 (lv_at hl 5 rfl) ?_
              exact hJ14 q7 z1.2.1 z1.2.2.2 q12 z1.2.2.1 _ _ _ h hP hD hS (lv_sub hl [1, 2, 3, 4, 6, 0] rfl)
            · replace h := (if_neg c13).symm.trans h
              refine lv_lload hx hb dX5_looksAt_91 (lv_at hl 0 rfl) ?_
              refine lv_goto (tgt := 98) hx hb dX5_looksAt_93 (by decide) ?_
              exact hJ14 q7 z1.2.1 z1.2.2.2 q12 q12 _ _ _ h hP hD hS (lv_sub hl [1, 2, 3, 4, 6, 0] rfl)
          have hL7 : ∀ (n : Nat) (z7 : (Nat → Int64) × Int32) (H : Heap) (locs : List Loc) (ls : Array Slot), lp (f_X5_looksAt_b44 goa z1.2.2.2) n z7 = some q7 → va_P G vwCl (wM cI cJ aM row tot z7.1 goa bes z1.2.1 txt par sav bwh bpr bse len mat ask hh ++ ([] : va_W)) H → va_D A (wM cI cJ aM row tot z7.1 goa bes z1.2.1 txt par sav bwh bpr bse len mat ask hh ++ ([] : va_W)) → va_S A s.heap H locs → lv_has ls 14 [(0, .ref (aM 0)), (1, .int p0), (2, .int p1), (3, .int p2), (4, .long z1.2.2.1), (6, .int z1.2.2.2), (7, .int z7.2)] → W p l ev ({ frames := 5, cells := 0, slots := 0, locals := 110 } : Room) s m ([.ref (aM 0), .int p0, .int p1, .int p2] : List Value).toArray below meth c H locs 0 0 (MQ below (qV G (ty5 cI cJ cZ cO cA) A (wM cI cJ aM row tot res.1 goa res.2.1 res.2.2.1 txt par sav res.2.2.2.1 res.2.2.2.2.1 res.2.2.2.2.2 len mat ask hh ++ ([] : va_W))) ([.ref (aM 0), .int p0, .int p1, .int p2] : List Value).toArray s 0 0 A) (F0 m 44 ls []) := by
            intro n
            induction n with
            | zero => intro z7 H locs ls h; cases h
            | succ n ih7 =>
              intro z7 H locs ls h hP hD hS hl
              obtain ⟨o7, h, h7⟩ := lp_s h
              unfold f_X5_looksAt_b44 at h
              refine lv_iload hx hb dX5_looksAt_44 (lv_at hl 6 rfl) ?_
              refine lv_iconst (v := 3) hx hb dX5_looksAt_46 (by decide) ?_
              refine lv_icmp_ge (tgt := 80) hx hb dX5_looksAt_47 (by decide) (fun c8 => ?_) (fun c8 => ?_)
              · replace h := (if_pos c8).symm.trans h
                rw [← Option.some.inj h] at h7
                exact hX7_0 z7.1 _ _ _ (lp_x h7) hP hD hS (lv_sub hl [0, 1, 2, 3, 4, 5] rfl)
              · replace h := (if_neg c8).symm.trans h
                refine lv_iload hx hb dX5_looksAt_50 (lv_at hl 5 rfl) ?_
                refine lv_if_lt (tgt := 80) hx hb dX5_looksAt_52 (by decide) (fun c9 => ?_) (fun c9 => ?_)
                · replace h := (if_pos c9).symm.trans h
                  rw [← Option.some.inj h] at h7
                  exact hX7_0 z7.1 _ _ _ (lp_x h7) hP hD hS (lv_sub hl [0, 1, 2, 3, 4, 5] rfl)
                · replace h := (if_neg c9).symm.trans h
                  refine lv_aload_n hx hb dX5_looksAt_55 rfl (lv_at hl 0 rfl) ?_
                  refine va_get (D := G) (ci := 5) (v := .ref (aM 3)) (C := RX5) (T := TX5) (N := 16) hx hb hts uX5 hown hK hP 0 rfl rfl 3 (by decide) (hts _ kw582) (fun _ h9 => h9) rfl dX5_looksAt_56 ?_
                  refine lv_iconst (v := 3) hx hb dX5_looksAt_59 (by decide) ?_
                  refine lv_iload hx hb dX5_looksAt_60 (lv_at hl 6 rfl) ?_
                  refine lv_imul hx hb dX5_looksAt_62 ?_
                  refine lv_iload hx hb dX5_looksAt_63 (lv_at hl 5 rfl) ?_
                  refine lv_iadd hx hb dX5_looksAt_65 ?_
                  refine lv_aload_n hx hb dX5_looksAt_66 rfl (lv_at hl 0 rfl) ?_
                  refine va_get (D := G) (ci := 5) (v := .ref (aM 4)) (C := RX5) (T := TX5) (N := 16) hx hb hts uX5 hown hK hP 0 rfl rfl 4 (by decide) (hts _ kw583) (fun _ h9 => h9) rfl dX5_looksAt_67 ?_
                  refine lv_iload hx hb dX5_looksAt_70 (lv_at hl 6 rfl) ?_
                  obtain ⟨g10, h⟩ := gd_s h
                  refine va_lald hx hb hK hP 4 1 rfl rfl (ib_in g10) dX5_looksAt_72 ?_
                  obtain ⟨g11, h⟩ := gd_s h
                  refine va_last hx hb hK hP hD hS 3 1 rfl rfl (ib_in g11) dX5_looksAt_73 (fun H locs hP hD hS => ?_)
                  have hP : va_P G vwCl (wM cI cJ aM row tot (vp_updL z7.1 ((3 * z7.2) + z1.2.2.2).toNatClampNeg (goa z7.2.toNatClampNeg)) goa bes z1.2.1 txt par sav bwh bpr bse len mat ask hh ++ ([] : va_W)) H := hP
                  have hD : va_D A (wM cI cJ aM row tot (vp_updL z7.1 ((3 * z7.2) + z1.2.2.2).toNatClampNeg (goa z7.2.toNatClampNeg)) goa bes z1.2.1 txt par sav bwh bpr bse len mat ask hh ++ ([] : va_W)) := hD
                  refine lv_iinc (v := (z7.2 + 1)) (lv' := [(7, .int (z7.2 + 1)), (0, .ref (aM 0)), (1, .int p0), (2, .int p1), (3, .int p2), (4, .long z1.2.2.1), (6, .int z1.2.2.2)]) hx hb dX5_looksAt_74 hl (k := 6) rfl rfl (by decide) rfl (fun ls hl => ?_)
                  refine lv_goto (tgt := 44) hx hb dX5_looksAt_77 (by decide) ?_
                  rw [← Option.some.inj h] at h7
                  exact ih7 ((vp_updL z7.1 ((3 * z7.2) + z1.2.2.2).toNatClampNeg (goa z7.2.toNatClampNeg)), (z7.2 + 1)) _ _ _ (lp_b h7) hP hD hS (lv_sub hl [1, 2, 3, 4, 5, 6, 0] rfl)
          exact hL7 _ (q3, 0) _ _ _ hq7 hP hD hS (lv_sub hl [1, 2, 3, 4, 5, 6, 0] rfl)
        have hL3 : ∀ (n : Nat) (z3 : (Nat → Int64) × Int32) (H : Heap) (locs : List Loc) (ls : Array Slot), lp (f_X5_looksAt_b15 row p0 p1 p2) n z3 = some q3 → va_P G vwCl (wM cI cJ aM row tot z3.1 goa bes z1.2.1 txt par sav bwh bpr bse len mat ask hh ++ ([] : va_W)) H → va_D A (wM cI cJ aM row tot z3.1 goa bes z1.2.1 txt par sav bwh bpr bse len mat ask hh ++ ([] : va_W)) → va_S A s.heap H locs → lv_has ls 14 [(0, .ref (aM 0)), (1, .int p0), (2, .int p1), (3, .int p2), (4, .long z1.2.2.1), (6, .int z1.2.2.2), (7, .int z3.2)] → W p l ev ({ frames := 5, cells := 0, slots := 0, locals := 110 } : Room) s m ([.ref (aM 0), .int p0, .int p1, .int p2] : List Value).toArray below meth c H locs 0 0 (MQ below (qV G (ty5 cI cJ cZ cO cA) A (wM cI cJ aM row tot res.1 goa res.2.1 res.2.2.1 txt par sav res.2.2.2.1 res.2.2.2.2.1 res.2.2.2.2.2 len mat ask hh ++ ([] : va_W))) ([.ref (aM 0), .int p0, .int p1, .int p2] : List Value).toArray s 0 0 A) (F0 m 15 ls []) := by
          intro n
          induction n with
          | zero => intro z3 H locs ls h; cases h
          | succ n ih3 =>
            intro z3 H locs ls h hP hD hS hl
            obtain ⟨o3, h, h3⟩ := lp_s h
            unfold f_X5_looksAt_b15 at h
            refine lv_iload hx hb dX5_looksAt_15 (lv_at hl 6 rfl) ?_
            refine lv_iconst (v := 3) hx hb dX5_looksAt_17 (by decide) ?_
            refine lv_icmp_ge (tgt := 41) hx hb dX5_looksAt_18 (by decide) (fun c4 => ?_) (fun c4 => ?_)
            · replace h := (if_pos c4).symm.trans h
              rw [← Option.some.inj h] at h3
              exact hX3_0 z3.1 _ _ _ (lp_x h3) hP hD hS (lv_sub hl [0, 1, 2, 3, 4, 5] rfl)
            · replace h := (if_neg c4).symm.trans h
              refine lv_aload_n hx hb dX5_looksAt_21 rfl (lv_at hl 0 rfl) ?_
              refine lv_iload hx hb dX5_looksAt_22 (lv_at hl 6 rfl) ?_
              refine lv_iload_n hx hb dX5_looksAt_24 rfl (lv_at hl 1 rfl) ?_
              refine lv_iload_n hx hb dX5_looksAt_25 rfl (lv_at hl 2 rfl) ?_
              refine lv_iload_n hx hb dX5_looksAt_26 rfl (lv_at hl 3 rfl) ?_
              refine lv_iload hx hb dX5_looksAt_27 (lv_at hl 6 rfl) ?_
              obtain ⟨q5, hq5, h⟩ := bd_s h
              refine kSi (n := 4) (As := [.int p0, .int p1, .int p2, .int z3.2]) (rest := [.int z3.2, .ref (aM 0)]) hx hb hml hown hts (c_X5_member l G cI cJ cZ cO cA e _ p0 p1 p2 z3.2 hq5) (tb_S kw761 kw762 kw7 kw763) rfl rfl (by decide +kernel) ⟨Nat.le_of_ble_eq_true rfl, Nat.le_of_ble_eq_true rfl⟩ hK hP hD hS hA hE rfl rfl hl.1 (Nat.le_of_ble_eq_true rfl) ⟨Nat.zero_le _, Nat.zero_le _⟩ dX5_looksAt_29 (fun H locs hP hD hS => ?_)
              obtain ⟨q6, hq6, h⟩ := bd_s h
              refine kVv (n := 2) (C := RX5) (ws' := wM cI cJ aM row tot q6 goa bes z1.2.1 txt par sav bwh bpr bse len mat ask hh ++ ([] : va_W)) (As := [.int z3.2, .int q5]) (rest := []) hx hb hml hown hts (c_X5_lays l G cI cJ cZ cO cA e aM _ row tot z3.1 goa bes z1.2.1 txt par sav bwh bpr bse len mat ask hh z3.2 q5 hq6) (tb_V kw696 kw698 kv22 kw7 kw699) rfl rfl (by decide +kernel) ⟨Nat.le_of_ble_eq_true rfl, Nat.le_of_ble_eq_true rfl⟩ hK hP hD hS hA hE 0 rfl rfl [0, 1, 2, 3, 4, 5, 6, 7, 8] [] rfl rfl rfl 9 ⟨rfl, rfl⟩ (by decide +kernel) (by decide +kernel) rfl rfl hl.1 (Nat.le_of_ble_eq_true rfl) ⟨Nat.zero_le _, Nat.zero_le _⟩ dX5_looksAt_32 (fun H locs hP hD hS => ?_)
              refine lv_iinc (v := (z3.2 + 1)) (lv' := [(7, .int (z3.2 + 1)), (0, .ref (aM 0)), (1, .int p0), (2, .int p1), (3, .int p2), (4, .long z1.2.2.1), (6, .int z1.2.2.2)]) hx hb dX5_looksAt_35 hl (k := 6) rfl rfl (by decide) rfl (fun ls hl => ?_)
              refine lv_goto (tgt := 15) hx hb dX5_looksAt_38 (by decide) ?_
              rw [← Option.some.inj h] at h3
              exact ih3 (q6, (z3.2 + 1)) _ _ _ (lp_b h3) hP hD hS (lv_sub hl [1, 2, 3, 4, 5, 6, 0] rfl)
        exact hL3 _ (z1.1, 0) _ _ _ hq3 hP hD hS (lv_sub hl [1, 2, 3, 4, 5, 6, 0] rfl)
  exact hL1 _ (tab, tic, 0, (-1)) _ _ _ hq1 hP hD hS (lv_sub hl [2, 3, 4, 5, 1, 0] rfl)

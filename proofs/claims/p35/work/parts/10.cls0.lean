/-! X4_isWithin -/
def f_X4_isWithin (p0 : Int32) (p1 : Int32) (p2 : Int32) : Option (Int32) :=
  if p0 < p1 then (some 0) else (if p2 < p0 then (some 0) else (some 1))

set_option maxHeartbeats 4000000 in
set_option maxRecDepth 100000 in
theorem c_X4_isWithin (l : Launch) (G : va_G) (cI cJ cZ cO cA : ClassId) (e : Nat × Nat) (sz : Nat) (p0 : Int32) (p1 : Int32) (p2 : Int32) {res : Int32} (hf : f_X4_isWithin p0 p1 p2 = some res) : MetI l yX4_isWithin cX4_isWithin 3 .boolean ({ frames := 0, cells := 0, slots := 0, locals := 0 } : Room) [.int p0, .int p1, .int p2] G (ty5 cI cJ cZ cO cA) e (([] : va_W)) (([] : va_W)) sz res := by
  refine g_body (QQ := fun A => (qI G (ty5 cI cJ cZ cO cA) A (([] : va_W)) res)) (own := RX4) (by decide) rfl (Nat.le_of_ble_eq_true rfl) ?_
  intro p ev s m below meth c A ls hx hb hr hml hown hts hlk hA hP hD hS hK hE hl
  have hl : lv_has ls 3 [(0, .int p0), (1, .int p1), (2, .int p2)] := hl
  show W p l ev ({ frames := 0, cells := 0, slots := 0, locals := 0 } : Room) s m ([.int p0, .int p1, .int p2] : List Value).toArray below meth c s.heap [] 0 0 (MQ below (qI G (ty5 cI cJ cZ cO cA) A (([] : va_W)) res) ([.int p0, .int p1, .int p2] : List Value).toArray s 0 0 A) (F0 m 0 ls [])
  have h := hf
  unfold f_X4_isWithin at h
  refine lv_iload_n hx hb dX4_isWithin_0 rfl (lv_at hl 0 rfl) ?_
  refine lv_iload_n hx hb dX4_isWithin_1 rfl (lv_at hl 1 rfl) ?_
  refine lv_icmp_lt (tgt := 14) hx hb dX4_isWithin_2 (by decide) (fun c1 => ?_) (fun c1 => ?_)
  · replace h := (if_pos c1).symm.trans h
    refine lv_iconst (v := 0) hx hb dX4_isWithin_14 (by decide) ?_
    rw [← Option.some.inj h]
    exact kri hx hb hr hlk rfl rfl hP hD hS hK dX4_isWithin_15
  · replace h := (if_neg c1).symm.trans h
    refine lv_iload_n hx hb dX4_isWithin_5 rfl (lv_at hl 0 rfl) ?_
    refine lv_iload_n hx hb dX4_isWithin_6 rfl (lv_at hl 2 rfl) ?_
    refine lv_icmp_gt (tgt := 14) hx hb dX4_isWithin_7 (by decide) (fun c2 => ?_) (fun c2 => ?_)
    · replace h := (if_pos c2).symm.trans h
      refine lv_iconst (v := 0) hx hb dX4_isWithin_14 (by decide) ?_
      rw [← Option.some.inj h]
      exact kri hx hb hr hlk rfl rfl hP hD hS hK dX4_isWithin_15
    · replace h := (if_neg c2).symm.trans h
      refine lv_iconst (v := 1) hx hb dX4_isWithin_10 (by decide) ?_
      refine lv_goto (tgt := 15) hx hb dX4_isWithin_11 (by decide) ?_
      rw [← Option.some.inj h]
      exact kri hx hb hr hlk rfl rfl hP hD hS hK dX4_isWithin_15

/-! X4_isTank -/
def f_X4_isTank (p0 : Int32) : Option (Int32) :=
  (f_X4_isWithin p0 0 1).bind (fun q1 => gd (zb q1) (some q1))

set_option maxHeartbeats 4000000 in
set_option maxRecDepth 100000 in
theorem c_X4_isTank (l : Launch) (G : va_G) (cI cJ cZ cO cA : ClassId) (e : Nat × Nat) (sz : Nat) (p0 : Int32) {res : Int32} (hf : f_X4_isTank p0 = some res) : MetI l yX4_isTank cX4_isTank 1 .boolean ({ frames := 1, cells := 0, slots := 0, locals := 22 } : Room) [.int p0] G (ty5 cI cJ cZ cO cA) e (([] : va_W)) (([] : va_W)) sz res := by
  refine g_body (QQ := fun A => (qI G (ty5 cI cJ cZ cO cA) A (([] : va_W)) res)) (own := RX4) (by decide) rfl (Nat.le_of_ble_eq_true rfl) ?_
  intro p ev s m below meth c A ls hx hb hr hml hown hts hlk hA hP hD hS hK hE hl
  have hl : lv_has ls 1 [(0, .int p0)] := hl
  show W p l ev ({ frames := 1, cells := 0, slots := 0, locals := 22 } : Room) s m ([.int p0] : List Value).toArray below meth c s.heap [] 0 0 (MQ below (qI G (ty5 cI cJ cZ cO cA) A (([] : va_W)) res) ([.int p0] : List Value).toArray s 0 0 A) (F0 m 0 ls [])
  have h := hf
  unfold f_X4_isTank at h
  refine lv_iload_n hx hb dX4_isTank_0 rfl (lv_at hl 0 rfl) ?_
  refine lv_iconst (v := 0) hx hb dX4_isTank_1 (by decide) ?_
  refine lv_iconst (v := 1) hx hb dX4_isTank_2 (by decide) ?_
  obtain ⟨q1, hq1, h⟩ := bd_s h
  refine kSi (n := 3) (As := [.int p0, .int 0, .int 1]) (rest := []) hx hb hml hown hts (c_X4_isWithin l G cI cJ cZ cO cA e _ p0 0 1 hq1) (tb_S kw185 kw186 kw1 kw187) rfl rfl (by decide +kernel) ⟨Nat.le_of_ble_eq_true rfl, Nat.le_of_ble_eq_true rfl⟩ hK hP hD hS hA hE rfl rfl hl.1 (Nat.le_of_ble_eq_true rfl) ⟨Nat.zero_le _, Nat.zero_le _⟩ dX4_isTank_3 (fun H locs hP hD hS => ?_)
  obtain ⟨g2, h⟩ := gd_s h
  rw [← Option.some.inj h]
  exact kri hx hb hr hlk (zb_s g2) rfl hP hD hS hK dX4_isTank_6

/-! X4_isAtMost -/
def f_X4_isAtMost (p0 : Int32) (p1 : Int32) : Option (Int32) :=
  (f_X4_isWithin p0 (-p1) p1).bind (fun q1 => gd (zb q1) (some q1))

set_option maxHeartbeats 4000000 in
set_option maxRecDepth 100000 in
theorem c_X4_isAtMost (l : Launch) (G : va_G) (cI cJ cZ cO cA : ClassId) (e : Nat × Nat) (sz : Nat) (p0 : Int32) (p1 : Int32) {res : Int32} (hf : f_X4_isAtMost p0 p1 = some res) : MetI l yX4_isAtMost cX4_isAtMost 2 .boolean ({ frames := 1, cells := 0, slots := 0, locals := 22 } : Room) [.int p0, .int p1] G (ty5 cI cJ cZ cO cA) e (([] : va_W)) (([] : va_W)) sz res := by
  refine g_body (QQ := fun A => (qI G (ty5 cI cJ cZ cO cA) A (([] : va_W)) res)) (own := RX4) (by decide) rfl (Nat.le_of_ble_eq_true rfl) ?_
  intro p ev s m below meth c A ls hx hb hr hml hown hts hlk hA hP hD hS hK hE hl
  have hl : lv_has ls 2 [(0, .int p0), (1, .int p1)] := hl
  show W p l ev ({ frames := 1, cells := 0, slots := 0, locals := 22 } : Room) s m ([.int p0, .int p1] : List Value).toArray below meth c s.heap [] 0 0 (MQ below (qI G (ty5 cI cJ cZ cO cA) A (([] : va_W)) res) ([.int p0, .int p1] : List Value).toArray s 0 0 A) (F0 m 0 ls [])
  have h := hf
  unfold f_X4_isAtMost at h
  refine lv_iload_n hx hb dX4_isAtMost_0 rfl (lv_at hl 0 rfl) ?_
  refine lv_iload_n hx hb dX4_isAtMost_1 rfl (lv_at hl 1 rfl) ?_
  refine lv_ineg hx hb dX4_isAtMost_2 ?_
  refine lv_iload_n hx hb dX4_isAtMost_3 rfl (lv_at hl 1 rfl) ?_
  obtain ⟨q1, hq1, h⟩ := bd_s h
  refine kSi (n := 3) (As := [.int p0, .int (-p1), .int p1]) (rest := []) hx hb hml hown hts (c_X4_isWithin l G cI cJ cZ cO cA e _ p0 (-p1) p1 hq1) (tb_S kw185 kw186 kw1 kw187) rfl rfl (by decide +kernel) ⟨Nat.le_of_ble_eq_true rfl, Nat.le_of_ble_eq_true rfl⟩ hK hP hD hS hA hE rfl rfl hl.1 (Nat.le_of_ble_eq_true rfl) ⟨Nat.zero_le _, Nat.zero_le _⟩ dX4_isAtMost_4 (fun H locs hP hD hS => ?_)
  obtain ⟨g2, h⟩ := gd_s h
  rw [← Option.some.inj h]
  exact kri hx hb hr hlk (zb_s g2) rfl hP hD hS hK dX4_isAtMost_7

/-! X2_copyFrom -/
def f_X2_copyFrom (opr : Nat → Int32) (opu : Nat → Int32) (ota : Nat → Int32) (ose : Nat → Int32) (oqu : Nat → Int32) (oim : Nat → Int32) (osu : Nat → Int64) (otc : Int32) (osc : Int32) (orc : Int32) (ocn : Int32) (oso : Int32) (pr : Nat → Int32) (pu : Nat → Int32) (ta : Nat → Int32) (se : Nat → Int32) (qu : Nat → Int32) (im : Nat → Int32) (su : Nat → Int64) (tc : Int32) (sc : Int32) (rc : Int32) (cn : Int32) (so : Int32) : Option ((Nat → Int32) × (Nat → Int32) × (Nat → Int32) × (Nat → Int32) × (Nat → Int32) × (Nat → Int32) × (Nat → Int64) × Int32 × Int32 × Int32 × Int32 × Int32) :=
  gd (cpk 0 0 56 56 56) (gd (cpk 0 0 8 8 8) (gd (cpk 0 0 2 2 2) (gd (cpk 0 0 8 8 8) (gd (cpk 0 0 30 30 30) (gd (cpk 0 0 9 9 9) (gd (cpk 0 0 3 3 3) (some ((va_cpy opr pr (0 : Int32).toNatClampNeg (0 : Int32).toNatClampNeg (56 : Int32).toNatClampNeg), (va_cpy opu pu (0 : Int32).toNatClampNeg (0 : Int32).toNatClampNeg (8 : Int32).toNatClampNeg), (va_cpy ota ta (0 : Int32).toNatClampNeg (0 : Int32).toNatClampNeg (2 : Int32).toNatClampNeg), (va_cpy ose se (0 : Int32).toNatClampNeg (0 : Int32).toNatClampNeg (8 : Int32).toNatClampNeg), (va_cpy oqu qu (0 : Int32).toNatClampNeg (0 : Int32).toNatClampNeg (30 : Int32).toNatClampNeg), (va_cpy oim im (0 : Int32).toNatClampNeg (0 : Int32).toNatClampNeg (9 : Int32).toNatClampNeg), (va_cpy osu su (0 : Int32).toNatClampNeg (0 : Int32).toNatClampNeg (3 : Int32).toNatClampNeg), otc, osc, orc, ocn, oso))))))))

set_option maxHeartbeats 4000000 in
set_option maxRecDepth 100000 in
theorem c_X2_copyFrom (l : Launch) (G : va_G) (cI cJ cZ cO cA : ClassId) (e : Nat × Nat) (aS : Nat → Nat) (aO : Nat → Nat) (sz : Nat) (pr : Nat → Int32) (pu : Nat → Int32) (ta : Nat → Int32) (se : Nat → Int32) (qu : Nat → Int32) (im : Nat → Int32) (su : Nat → Int64) (tc : Int32) (sc : Int32) (rc : Int32) (cn : Int32) (so : Int32) (opr : Nat → Int32) (opu : Nat → Int32) (ota : Nat → Int32) (ose : Nat → Int32) (oqu : Nat → Int32) (oim : Nat → Int32) (osu : Nat → Int64) (otc : Int32) (osc : Int32) (orc : Int32) (ocn : Int32) (oso : Int32) {res : (Nat → Int32) × (Nat → Int32) × (Nat → Int32) × (Nat → Int32) × (Nat → Int32) × (Nat → Int32) × (Nat → Int64) × Int32 × Int32 × Int32 × Int32 × Int32} (hf : f_X2_copyFrom opr opu ota ose oqu oim osu otc osc orc ocn oso pr pu ta se qu im su tc sc rc cn so = some res) : MetV l yX2_copyFrom cX2_copyFrom 2 ({ frames := 1, cells := 0, slots := 0, locals := 40 } : Room) [.ref (aS 0), .ref (aO 0)] G (ty5 cI cJ cZ cO cA) e (wS cI cJ aS pr pu ta se qu im su tc sc rc cn so ++ (wS cI cJ aO opr opu ota ose oqu oim osu otc osc orc ocn oso ++ ([] : va_W))) (wS cI cJ aS res.1 res.2.1 res.2.2.1 res.2.2.2.1 res.2.2.2.2.1 res.2.2.2.2.2.1 res.2.2.2.2.2.2.1 res.2.2.2.2.2.2.2.1 res.2.2.2.2.2.2.2.2.1 res.2.2.2.2.2.2.2.2.2.1 res.2.2.2.2.2.2.2.2.2.2.1 res.2.2.2.2.2.2.2.2.2.2.2 ++ (wS cI cJ aO opr opu ota ose oqu oim osu otc osc orc ocn oso ++ ([] : va_W))) sz := by
  refine g_body (QQ := fun A => (qV G (ty5 cI cJ cZ cO cA) A (wS cI cJ aS res.1 res.2.1 res.2.2.1 res.2.2.2.1 res.2.2.2.2.1 res.2.2.2.2.2.1 res.2.2.2.2.2.2.1 res.2.2.2.2.2.2.2.1 res.2.2.2.2.2.2.2.2.1 res.2.2.2.2.2.2.2.2.2.1 res.2.2.2.2.2.2.2.2.2.2.1 res.2.2.2.2.2.2.2.2.2.2.2 ++ (wS cI cJ aO opr opu ota ose oqu oim osu otc osc orc ocn oso ++ ([] : va_W))))) (own := RX2) (by decide) rfl (Nat.le_of_ble_eq_true rfl) ?_
  intro p ev s m below meth c A ls hx hb hr hml hown hts hlk hA hP hD hS hK hE hl
  have hl : lv_has ls 2 [(0, .ref (aS 0)), (1, .ref (aO 0))] := hl
  show W p l ev ({ frames := 1, cells := 0, slots := 0, locals := 40 } : Room) s m ([.ref (aS 0), .ref (aO 0)] : List Value).toArray below meth c s.heap [] 0 0 (MQ below (qV G (ty5 cI cJ cZ cO cA) A (wS cI cJ aS res.1 res.2.1 res.2.2.1 res.2.2.2.1 res.2.2.2.2.1 res.2.2.2.2.2.1 res.2.2.2.2.2.2.1 res.2.2.2.2.2.2.2.1 res.2.2.2.2.2.2.2.2.1 res.2.2.2.2.2.2.2.2.2.1 res.2.2.2.2.2.2.2.2.2.2.1 res.2.2.2.2.2.2.2.2.2.2.2 ++ (wS cI cJ aO opr opu ota ose oqu oim osu otc osc orc ocn oso ++ ([] : va_W)))) ([.ref (aS 0), .ref (aO 0)] : List Value).toArray s 0 0 A) (F0 m 0 ls [])
  have h := hf
  unfold f_X2_copyFrom at h
  refine lv_aload_n hx hb dX2_copyFrom_0 rfl (lv_at hl 1 rfl) ?_
  refine va_get (D := G) (ci := 2) (v := .ref (aO 1)) (C := RX2) (T := TX2) (N := 12) hx hb hts uX2 hown hK hP 8 rfl rfl 0 (by decide) (hts _ kw28) (fun _ h9 => h9) rfl dX2_copyFrom_1 ?_
  refine lv_iconst (v := 0) hx hb dX2_copyFrom_4 (by decide) ?_
  refine lv_aload_n hx hb dX2_copyFrom_5 rfl (lv_at hl 0 rfl) ?_
  refine va_get (D := G) (ci := 2) (v := .ref (aS 1)) (C := RX2) (T := TX2) (N := 12) hx hb hts uX2 hown hK hP 0 rfl rfl 0 (by decide) (hts _ kw28) (fun _ h9 => h9) rfl dX2_copyFrom_6 ?_
  refine lv_iconst (v := 0) hx hb dX2_copyFrom_9 (by decide) ?_
  refine lv_aload_n hx hb dX2_copyFrom_10 rfl (lv_at hl 0 rfl) ?_
  refine va_get (D := G) (ci := 2) (v := .ref (aS 1)) (C := RX2) (T := TX2) (N := 12) hx hb hts uX2 hown hK hP 0 rfl rfl 0 (by decide) (hts _ kw28) (fun _ h9 => h9) rfl dX2_copyFrom_11 ?_
  refine va_alen (v := 56) hx hb hK hP 1 0 rfl rfl rfl dX2_copyFrom_14 ?_
  obtain ⟨g1, h⟩ := gd_s h
  have k1 := cpk_s g1
  refine va_copyi hx hb (hml.trans hl.1.symm) hown (hts _ kw202) (hts _ kw204) (hts _ kw203) (hts _ kw7) hK hP hD hS 9 1 0 0 rfl rfl rfl rfl rfl k1.1 k1.2.1 k1.2.2.1 k1.2.2.2.1 k1.2.2.2.2 (fun _ _ => rfl) (Nat.le_of_ble_eq_true rfl) (Nat.le_of_ble_eq_true rfl) dX2_copyFrom_15 (fun H locs hP hD hS => ?_)
  have hP : va_P G vwCl (wS cI cJ aS (va_cpy opr pr (0 : Int32).toNatClampNeg (0 : Int32).toNatClampNeg (56 : Int32).toNatClampNeg) pu ta se qu im su tc sc rc cn so ++ (wS cI cJ aO opr opu ota ose oqu oim osu otc osc orc ocn oso ++ ([] : va_W))) H := hP
  have hD : va_D A (wS cI cJ aS (va_cpy opr pr (0 : Int32).toNatClampNeg (0 : Int32).toNatClampNeg (56 : Int32).toNatClampNeg) pu ta se qu im su tc sc rc cn so ++ (wS cI cJ aO opr opu ota ose oqu oim osu otc osc orc ocn oso ++ ([] : va_W))) := hD
  refine lv_aload_n hx hb dX2_copyFrom_18 rfl (lv_at hl 1 rfl) ?_
  refine va_get (D := G) (ci := 2) (v := .ref (aO 2)) (C := RX2) (T := TX2) (N := 12) hx hb hts uX2 hown hK hP 8 rfl rfl 1 (by decide) (hts _ kw29) (fun _ h9 => h9) rfl dX2_copyFrom_19 ?_
  refine lv_iconst (v := 0) hx hb dX2_copyFrom_22 (by decide) ?_
  refine lv_aload_n hx hb dX2_copyFrom_23 rfl (lv_at hl 0 rfl) ?_
  refine va_get (D := G) (ci := 2) (v := .ref (aS 2)) (C := RX2) (T := TX2) (N := 12) hx hb hts uX2 hown hK hP 0 rfl rfl 1 (by decide) (hts _ kw29) (fun _ h9 => h9) rfl dX2_copyFrom_24 ?_
  refine lv_iconst (v := 0) hx hb dX2_copyFrom_27 (by decide) ?_
  refine lv_aload_n hx hb dX2_copyFrom_28 rfl (lv_at hl 0 rfl) ?_
  refine va_get (D := G) (ci := 2) (v := .ref (aS 2)) (C := RX2) (T := TX2) (N := 12) hx hb hts uX2 hown hK hP 0 rfl rfl 1 (by decide) (hts _ kw29) (fun _ h9 => h9) rfl dX2_copyFrom_29 ?_
  refine va_alen (v := 8) hx hb hK hP 2 0 rfl rfl rfl dX2_copyFrom_32 ?_
  obtain ⟨g2, h⟩ := gd_s h
  have k2 := cpk_s g2
  refine va_copyi hx hb (hml.trans hl.1.symm) hown (hts _ kw202) (hts _ kw204) (hts _ kw203) (hts _ kw7) hK hP hD hS 10 2 0 0 rfl rfl rfl rfl rfl k2.1 k2.2.1 k2.2.2.1 k2.2.2.2.1 k2.2.2.2.2 (fun _ _ => rfl) (Nat.le_of_ble_eq_true rfl) (Nat.le_of_ble_eq_true rfl) dX2_copyFrom_33 (fun H locs hP hD hS => ?_)
  have hP : va_P G vwCl (wS cI cJ aS (va_cpy opr pr (0 : Int32).toNatClampNeg (0 : Int32).toNatClampNeg (56 : Int32).toNatClampNeg) (va_cpy opu pu (0 : Int32).toNatClampNeg (0 : Int32).toNatClampNeg (8 : Int32).toNatClampNeg) ta se qu im su tc sc rc cn so ++ (wS cI cJ aO opr opu ota ose oqu oim osu otc osc orc ocn oso ++ ([] : va_W))) H := hP
  have hD : va_D A (wS cI cJ aS (va_cpy opr pr (0 : Int32).toNatClampNeg (0 : Int32).toNatClampNeg (56 : Int32).toNatClampNeg) (va_cpy opu pu (0 : Int32).toNatClampNeg (0 : Int32).toNatClampNeg (8 : Int32).toNatClampNeg) ta se qu im su tc sc rc cn so ++ (wS cI cJ aO opr opu ota ose oqu oim osu otc osc orc ocn oso ++ ([] : va_W))) := hD
  refine lv_aload_n hx hb dX2_copyFrom_36 rfl (lv_at hl 1 rfl) ?_
  refine va_get (D := G) (ci := 2) (v := .ref (aO 3)) (C := RX2) (T := TX2) (N := 12) hx hb hts uX2 hown hK hP 8 rfl rfl 2 (by decide) (hts _ kw31) (fun _ h9 => h9) rfl dX2_copyFrom_37 ?_
  refine lv_iconst (v := 0) hx hb dX2_copyFrom_40 (by decide) ?_
  refine lv_aload_n hx hb dX2_copyFrom_41 rfl (lv_at hl 0 rfl) ?_
  refine va_get (D := G) (ci := 2) (v := .ref (aS 3)) (C := RX2) (T := TX2) (N := 12) hx hb hts uX2 hown hK hP 0 rfl rfl 2 (by decide) (hts _ kw31) (fun _ h9 => h9) rfl dX2_copyFrom_42 ?_
  refine lv_iconst (v := 0) hx hb dX2_copyFrom_45 (by decide) ?_
  refine lv_aload_n hx hb dX2_copyFrom_46 rfl (lv_at hl 0 rfl) ?_
  refine va_get (D := G) (ci := 2) (v := .ref (aS 3)) (C := RX2) (T := TX2) (N := 12) hx hb hts uX2 hown hK hP 0 rfl rfl 2 (by decide) (hts _ kw31) (fun _ h9 => h9) rfl dX2_copyFrom_47 ?_
  refine va_alen (v := 2) hx hb hK hP 3 0 rfl rfl rfl dX2_copyFrom_50 ?_
  obtain ⟨g3, h⟩ := gd_s h
  have k3 := cpk_s g3
  refine va_copyi hx hb (hml.trans hl.1.symm) hown (hts _ kw202) (hts _ kw204) (hts _ kw203) (hts _ kw7) hK hP hD hS 11 3 0 0 rfl rfl rfl rfl rfl k3.1 k3.2.1 k3.2.2.1 k3.2.2.2.1 k3.2.2.2.2 (fun _ _ => rfl) (Nat.le_of_ble_eq_true rfl) (Nat.le_of_ble_eq_true rfl) dX2_copyFrom_51 (fun H locs hP hD hS => ?_)
  have hP : va_P G vwCl (wS cI cJ aS (va_cpy opr pr (0 : Int32).toNatClampNeg (0 : Int32).toNatClampNeg (56 : Int32).toNatClampNeg) (va_cpy opu pu (0 : Int32).toNatClampNeg (0 : Int32).toNatClampNeg (8 : Int32).toNatClampNeg) (va_cpy ota ta (0 : Int32).toNatClampNeg (0 : Int32).toNatClampNeg (2 : Int32).toNatClampNeg) se qu im su tc sc rc cn so ++ (wS cI cJ aO opr opu ota ose oqu oim osu otc osc orc ocn oso ++ ([] : va_W))) H := hP
  have hD : va_D A (wS cI cJ aS (va_cpy opr pr (0 : Int32).toNatClampNeg (0 : Int32).toNatClampNeg (56 : Int32).toNatClampNeg) (va_cpy opu pu (0 : Int32).toNatClampNeg (0 : Int32).toNatClampNeg (8 : Int32).toNatClampNeg) (va_cpy ota ta (0 : Int32).toNatClampNeg (0 : Int32).toNatClampNeg (2 : Int32).toNatClampNeg) se qu im su tc sc rc cn so ++ (wS cI cJ aO opr opu ota ose oqu oim osu otc osc orc ocn oso ++ ([] : va_W))) := hD
  refine lv_aload_n hx hb dX2_copyFrom_54 rfl (lv_at hl 1 rfl) ?_
  refine va_get (D := G) (ci := 2) (v := .ref (aO 4)) (C := RX2) (T := TX2) (N := 12) hx hb hts uX2 hown hK hP 8 rfl rfl 3 (by decide) (hts _ kw33) (fun _ h9 => h9) rfl dX2_copyFrom_55 ?_
  refine lv_iconst (v := 0) hx hb dX2_copyFrom_58 (by decide) ?_
  refine lv_aload_n hx hb dX2_copyFrom_59 rfl (lv_at hl 0 rfl) ?_
  refine va_get (D := G) (ci := 2) (v := .ref (aS 4)) (C := RX2) (T := TX2) (N := 12) hx hb hts uX2 hown hK hP 0 rfl rfl 3 (by decide) (hts _ kw33) (fun _ h9 => h9) rfl dX2_copyFrom_60 ?_
  refine lv_iconst (v := 0) hx hb dX2_copyFrom_63 (by decide) ?_
  refine lv_aload_n hx hb dX2_copyFrom_64 rfl (lv_at hl 0 rfl) ?_
  refine va_get (D := G) (ci := 2) (v := .ref (aS 4)) (C := RX2) (T := TX2) (N := 12) hx hb hts uX2 hown hK hP 0 rfl rfl 3 (by decide) (hts _ kw33) (fun _ h9 => h9) rfl dX2_copyFrom_65 ?_
  refine va_alen (v := 8) hx hb hK hP 4 0 rfl rfl rfl dX2_copyFrom_68 ?_
  obtain ⟨g4, h⟩ := gd_s h
  have k4 := cpk_s g4
  refine va_copyi hx hb (hml.trans hl.1.symm) hown (hts _ kw202) (hts _ kw204) (hts _ kw203) (hts _ kw7) hK hP hD hS 12 4 0 0 rfl rfl rfl rfl rfl k4.1 k4.2.1 k4.2.2.1 k4.2.2.2.1 k4.2.2.2.2 (fun _ _ => rfl) (Nat.le_of_ble_eq_true rfl) (Nat.le_of_ble_eq_true rfl) dX2_copyFrom_69 (fun H locs hP hD hS => ?_)
  have hP : va_P G vwCl (wS cI cJ aS (va_cpy opr pr (0 : Int32).toNatClampNeg (0 : Int32).toNatClampNeg (56 : Int32).toNatClampNeg) (va_cpy opu pu (0 : Int32).toNatClampNeg (0 : Int32).toNatClampNeg (8 : Int32).toNatClampNeg) (va_cpy ota ta (0 : Int32).toNatClampNeg (0 : Int32).toNatClampNeg (2 : Int32).toNatClampNeg) (va_cpy ose se (0 : Int32).toNatClampNeg (0 : Int32).toNatClampNeg (8 : Int32).toNatClampNeg) qu im su tc sc rc cn so ++ (wS cI cJ aO opr opu ota ose oqu oim osu otc osc orc ocn oso ++ ([] : va_W))) H := hP
  have hD : va_D A (wS cI cJ aS (va_cpy opr pr (0 : Int32).toNatClampNeg (0 : Int32).toNatClampNeg (56 : Int32).toNatClampNeg) (va_cpy opu pu (0 : Int32).toNatClampNeg (0 : Int32).toNatClampNeg (8 : Int32).toNatClampNeg) (va_cpy ota ta (0 : Int32).toNatClampNeg (0 : Int32).toNatClampNeg (2 : Int32).toNatClampNeg) (va_cpy ose se (0 : Int32).toNatClampNeg (0 : Int32).toNatClampNeg (8 : Int32).toNatClampNeg) qu im su tc sc rc cn so ++ (wS cI cJ aO opr opu ota ose oqu oim osu otc osc orc ocn oso ++ ([] : va_W))) := hD
  refine lv_aload_n hx hb dX2_copyFrom_72 rfl (lv_at hl 1 rfl) ?_
  refine va_get (D := G) (ci := 2) (v := .ref (aO 5)) (C := RX2) (T := TX2) (N := 12) hx hb hts uX2 hown hK hP 8 rfl rfl 4 (by decide) (hts _ kw34) (fun _ h9 => h9) rfl dX2_copyFrom_73 ?_
  refine lv_iconst (v := 0) hx hb dX2_copyFrom_76 (by decide) ?_
  refine lv_aload_n hx hb dX2_copyFrom_77 rfl (lv_at hl 0 rfl) ?_
  refine va_get (D := G) (ci := 2) (v := .ref (aS 5)) (C := RX2) (T := TX2) (N := 12) hx hb hts uX2 hown hK hP 0 rfl rfl 4 (by decide) (hts _ kw34) (fun _ h9 => h9) rfl dX2_copyFrom_78 ?_
  refine lv_iconst (v := 0) hx hb dX2_copyFrom_81 (by decide) ?_
  refine lv_aload_n hx hb dX2_copyFrom_82 rfl (lv_at hl 0 rfl) ?_
  refine va_get (D := G) (ci := 2) (v := .ref (aS 5)) (C := RX2) (T := TX2) (N := 12) hx hb hts uX2 hown hK hP 0 rfl rfl 4 (by decide) (hts _ kw34) (fun _ h9 => h9) rfl dX2_copyFrom_83 ?_
  refine va_alen (v := 30) hx hb hK hP 5 0 rfl rfl rfl dX2_copyFrom_86 ?_
  obtain ⟨g5, h⟩ := gd_s h
  have k5 := cpk_s g5
  refine va_copyi hx hb (hml.trans hl.1.symm) hown (hts _ kw202) (hts _ kw204) (hts _ kw203) (hts _ kw7) hK hP hD hS 13 5 0 0 rfl rfl rfl rfl rfl k5.1 k5.2.1 k5.2.2.1 k5.2.2.2.1 k5.2.2.2.2 (fun _ _ => rfl) (Nat.le_of_ble_eq_true rfl) (Nat.le_of_ble_eq_true rfl) dX2_copyFrom_87 (fun H locs hP hD hS => ?_)
  have hP : va_P G vwCl (wS cI cJ aS (va_cpy opr pr (0 : Int32).toNatClampNeg (0 : Int32).toNatClampNeg (56 : Int32).toNatClampNeg) (va_cpy opu pu (0 : Int32).toNatClampNeg (0 : Int32).toNatClampNeg (8 : Int32).toNatClampNeg) (va_cpy ota ta (0 : Int32).toNatClampNeg (0 : Int32).toNatClampNeg (2 : Int32).toNatClampNeg) (va_cpy ose se (0 : Int32).toNatClampNeg (0 : Int32).toNatClampNeg (8 : Int32).toNatClampNeg) (va_cpy oqu qu (0 : Int32).toNatClampNeg (0 : Int32).toNatClampNeg (30 : Int32).toNatClampNeg) im su tc sc rc cn so ++ (wS cI cJ aO opr opu ota ose oqu oim osu otc osc orc ocn oso ++ ([] : va_W))) H := hP
  have hD : va_D A (wS cI cJ aS (va_cpy opr pr (0 : Int32).toNatClampNeg (0 : Int32).toNatClampNeg (56 : Int32).toNatClampNeg) (va_cpy opu pu (0 : Int32).toNatClampNeg (0 : Int32).toNatClampNeg (8 : Int32).toNatClampNeg) (va_cpy ota ta (0 : Int32).toNatClampNeg (0 : Int32).toNatClampNeg (2 : Int32).toNatClampNeg) (va_cpy ose se (0 : Int32).toNatClampNeg (0 : Int32).toNatClampNeg (8 : Int32).toNatClampNeg) (va_cpy oqu qu (0 : Int32).toNatClampNeg (0 : Int32).toNatClampNeg (30 : Int32).toNatClampNeg) im su tc sc rc cn so ++ (wS cI cJ aO opr opu ota ose oqu oim osu otc osc orc ocn oso ++ ([] : va_W))) := hD
  refine lv_aload_n hx hb dX2_copyFrom_90 rfl (lv_at hl 1 rfl) ?_
  refine va_get (D := G) (ci := 2) (v := .ref (aO 6)) (C := RX2) (T := TX2) (N := 12) hx hb hts uX2 hown hK hP 8 rfl rfl 5 (by decide) (hts _ kw36) (fun _ h9 => h9) rfl dX2_copyFrom_91 ?_
  refine lv_iconst (v := 0) hx hb dX2_copyFrom_94 (by decide) ?_
  refine lv_aload_n hx hb dX2_copyFrom_95 rfl (lv_at hl 0 rfl) ?_
  refine va_get (D := G) (ci := 2) (v := .ref (aS 6)) (C := RX2) (T := TX2) (N := 12) hx hb hts uX2 hown hK hP 0 rfl rfl 5 (by decide) (hts _ kw36) (fun _ h9 => h9) rfl dX2_copyFrom_96 ?_
  refine lv_iconst (v := 0) hx hb dX2_copyFrom_99 (by decide) ?_
  refine lv_aload_n hx hb dX2_copyFrom_100 rfl (lv_at hl 0 rfl) ?_
  refine va_get (D := G) (ci := 2) (v := .ref (aS 6)) (C := RX2) (T := TX2) (N := 12) hx hb hts uX2 hown hK hP 0 rfl rfl 5 (by decide) (hts _ kw36) (fun _ h9 => h9) rfl dX2_copyFrom_101 ?_
  refine va_alen (v := 9) hx hb hK hP 6 0 rfl rfl rfl dX2_copyFrom_104 ?_
  obtain ⟨g6, h⟩ := gd_s h
  have k6 := cpk_s g6
  refine va_copyi hx hb (hml.trans hl.1.symm) hown (hts _ kw202) (hts _ kw204) (hts _ kw203) (hts _ kw7) hK hP hD hS 14 6 0 0 rfl rfl rfl rfl rfl k6.1 k6.2.1 k6.2.2.1 k6.2.2.2.1 k6.2.2.2.2 (fun _ _ => rfl) (Nat.le_of_ble_eq_true rfl) (Nat.le_of_ble_eq_true rfl) dX2_copyFrom_105 (fun H locs hP hD hS => ?_)
  have hP : va_P G vwCl (wS cI cJ aS (va_cpy opr pr (0 : Int32).toNatClampNeg (0 : Int32).toNatClampNeg (56 : Int32).toNatClampNeg) (va_cpy opu pu (0 : Int32).toNatClampNeg (0 : Int32).toNatClampNeg (8 : Int32).toNatClampNeg) (va_cpy ota ta (0 : Int32).toNatClampNeg (0 : Int32).toNatClampNeg (2 : Int32).toNatClampNeg) (va_cpy ose se (0 : Int32).toNatClampNeg (0 : Int32).toNatClampNeg (8 : Int32).toNatClampNeg) (va_cpy oqu qu (0 : Int32).toNatClampNeg (0 : Int32).toNatClampNeg (30 : Int32).toNatClampNeg) (va_cpy oim im (0 : Int32).toNatClampNeg (0 : Int32).toNatClampNeg (9 : Int32).toNatClampNeg) su tc sc rc cn so ++ (wS cI cJ aO opr opu ota ose oqu oim osu otc osc orc ocn oso ++ ([] : va_W))) H := hP
  have hD : va_D A (wS cI cJ aS (va_cpy opr pr (0 : Int32).toNatClampNeg (0 : Int32).toNatClampNeg (56 : Int32).toNatClampNeg) (va_cpy opu pu (0 : Int32).toNatClampNeg (0 : Int32).toNatClampNeg (8 : Int32).toNatClampNeg) (va_cpy ota ta (0 : Int32).toNatClampNeg (0 : Int32).toNatClampNeg (2 : Int32).toNatClampNeg) (va_cpy ose se (0 : Int32).toNatClampNeg (0 : Int32).toNatClampNeg (8 : Int32).toNatClampNeg) (va_cpy oqu qu (0 : Int32).toNatClampNeg (0 : Int32).toNatClampNeg (30 : Int32).toNatClampNeg) (va_cpy oim im (0 : Int32).toNatClampNeg (0 : Int32).toNatClampNeg (9 : Int32).toNatClampNeg) su tc sc rc cn so ++ (wS cI cJ aO opr opu ota ose oqu oim osu otc osc orc ocn oso ++ ([] : va_W))) := hD
  refine lv_aload_n hx hb dX2_copyFrom_108 rfl (lv_at hl 1 rfl) ?_
  refine va_get (D := G) (ci := 2) (v := .ref (aO 7)) (C := RX2) (T := TX2) (N := 12) hx hb hts uX2 hown hK hP 8 rfl rfl 6 (by decide) (hts _ kw38) (fun _ h9 => h9) rfl dX2_copyFrom_109 ?_
  refine lv_iconst (v := 0) hx hb dX2_copyFrom_112 (by decide) ?_
  refine lv_aload_n hx hb dX2_copyFrom_113 rfl (lv_at hl 0 rfl) ?_
  refine va_get (D := G) (ci := 2) (v := .ref (aS 7)) (C := RX2) (T := TX2) (N := 12) hx hb hts uX2 hown hK hP 0 rfl rfl 6 (by decide) (hts _ kw38) (fun _ h9 => h9) rfl dX2_copyFrom_114 ?_
  refine lv_iconst (v := 0) hx hb dX2_copyFrom_117 (by decide) ?_
  refine lv_aload_n hx hb dX2_copyFrom_118 rfl (lv_at hl 0 rfl) ?_
  refine va_get (D := G) (ci := 2) (v := .ref (aS 7)) (C := RX2) (T := TX2) (N := 12) hx hb hts uX2 hown hK hP 0 rfl rfl 6 (by decide) (hts _ kw38) (fun _ h9 => h9) rfl dX2_copyFrom_119 ?_
  refine va_alen (v := 3) hx hb hK hP 7 1 rfl rfl rfl dX2_copyFrom_122 ?_
  obtain ⟨g7, h⟩ := gd_s h
  have k7 := cpk_s g7
  refine va_copyl hx hb (hml.trans hl.1.symm) hown (hts _ kw202) (hts _ kw204) (hts _ kw203) (hts _ kw7) hK hP hD hS 15 7 1 1 rfl rfl rfl rfl rfl k7.1 k7.2.1 k7.2.2.1 k7.2.2.2.1 k7.2.2.2.2 (fun _ _ => rfl) (Nat.le_of_ble_eq_true rfl) (Nat.le_of_ble_eq_true rfl) dX2_copyFrom_123 (fun H locs hP hD hS => ?_)
  have hP : va_P G vwCl (wS cI cJ aS (va_cpy opr pr (0 : Int32).toNatClampNeg (0 : Int32).toNatClampNeg (56 : Int32).toNatClampNeg) (va_cpy opu pu (0 : Int32).toNatClampNeg (0 : Int32).toNatClampNeg (8 : Int32).toNatClampNeg) (va_cpy ota ta (0 : Int32).toNatClampNeg (0 : Int32).toNatClampNeg (2 : Int32).toNatClampNeg) (va_cpy ose se (0 : Int32).toNatClampNeg (0 : Int32).toNatClampNeg (8 : Int32).toNatClampNeg) (va_cpy oqu qu (0 : Int32).toNatClampNeg (0 : Int32).toNatClampNeg (30 : Int32).toNatClampNeg) (va_cpy oim im (0 : Int32).toNatClampNeg (0 : Int32).toNatClampNeg (9 : Int32).toNatClampNeg) (va_cpy osu su (0 : Int32).toNatClampNeg (0 : Int32).toNatClampNeg (3 : Int32).toNatClampNeg) tc sc rc cn so ++ (wS cI cJ aO opr opu ota ose oqu oim osu otc osc orc ocn oso ++ ([] : va_W))) H := hP
  have hD : va_D A (wS cI cJ aS (va_cpy opr pr (0 : Int32).toNatClampNeg (0 : Int32).toNatClampNeg (56 : Int32).toNatClampNeg) (va_cpy opu pu (0 : Int32).toNatClampNeg (0 : Int32).toNatClampNeg (8 : Int32).toNatClampNeg) (va_cpy ota ta (0 : Int32).toNatClampNeg (0 : Int32).toNatClampNeg (2 : Int32).toNatClampNeg) (va_cpy ose se (0 : Int32).toNatClampNeg (0 : Int32).toNatClampNeg (8 : Int32).toNatClampNeg) (va_cpy oqu qu (0 : Int32).toNatClampNeg (0 : Int32).toNatClampNeg (30 : Int32).toNatClampNeg) (va_cpy oim im (0 : Int32).toNatClampNeg (0 : Int32).toNatClampNeg (9 : Int32).toNatClampNeg) (va_cpy osu su (0 : Int32).toNatClampNeg (0 : Int32).toNatClampNeg (3 : Int32).toNatClampNeg) tc sc rc cn so ++ (wS cI cJ aO opr opu ota ose oqu oim osu otc osc orc ocn oso ++ ([] : va_W))) := hD
  refine lv_aload_n hx hb dX2_copyFrom_126 rfl (lv_at hl 0 rfl) ?_
  refine lv_aload_n hx hb dX2_copyFrom_127 rfl (lv_at hl 1 rfl) ?_
  refine va_get (D := G) (ci := 2) (v := .int otc) (C := RX2) (T := TX2) (N := 12) hx hb hts uX2 hown hK hP 8 rfl rfl 7 (by decide) (hts _ kw42) (fun _ h9 => h9) rfl dX2_copyFrom_128 ?_
  refine va_put (D := G) (ci := 2) (ty := .int) (v := .int otc) (C := RX2) (T := TX2) (N := 12) hx hb hts uX2 tyX2 tyX2_ok nmX2 hown hK hP hD hS 0 rfl rfl 7 (by decide) (hts _ kw42) (fun _ h9 => h9) rfl (by decide +kernel) rfl rfl (Nat.le_of_ble_eq_true rfl) dX2_copyFrom_131 (fun H locs hP hD hS => ?_)
  have hP : va_P G vwCl (wS cI cJ aS (va_cpy opr pr (0 : Int32).toNatClampNeg (0 : Int32).toNatClampNeg (56 : Int32).toNatClampNeg) (va_cpy opu pu (0 : Int32).toNatClampNeg (0 : Int32).toNatClampNeg (8 : Int32).toNatClampNeg) (va_cpy ota ta (0 : Int32).toNatClampNeg (0 : Int32).toNatClampNeg (2 : Int32).toNatClampNeg) (va_cpy ose se (0 : Int32).toNatClampNeg (0 : Int32).toNatClampNeg (8 : Int32).toNatClampNeg) (va_cpy oqu qu (0 : Int32).toNatClampNeg (0 : Int32).toNatClampNeg (30 : Int32).toNatClampNeg) (va_cpy oim im (0 : Int32).toNatClampNeg (0 : Int32).toNatClampNeg (9 : Int32).toNatClampNeg) (va_cpy osu su (0 : Int32).toNatClampNeg (0 : Int32).toNatClampNeg (3 : Int32).toNatClampNeg) otc sc rc cn so ++ (wS cI cJ aO opr opu ota ose oqu oim osu otc osc orc ocn oso ++ ([] : va_W))) H := hP
  have hD : va_D A (wS cI cJ aS (va_cpy opr pr (0 : Int32).toNatClampNeg (0 : Int32).toNatClampNeg (56 : Int32).toNatClampNeg) (va_cpy opu pu (0 : Int32).toNatClampNeg (0 : Int32).toNatClampNeg (8 : Int32).toNatClampNeg) (va_cpy ota ta (0 : Int32).toNatClampNeg (0 : Int32).toNatClampNeg (2 : Int32).toNatClampNeg) (va_cpy ose se (0 : Int32).toNatClampNeg (0 : Int32).toNatClampNeg (8 : Int32).toNatClampNeg) (va_cpy oqu qu (0 : Int32).toNatClampNeg (0 : Int32).toNatClampNeg (30 : Int32).toNatClampNeg) (va_cpy oim im (0 : Int32).toNatClampNeg (0 : Int32).toNatClampNeg (9 : Int32).toNatClampNeg) (va_cpy osu su (0 : Int32).toNatClampNeg (0 : Int32).toNatClampNeg (3 : Int32).toNatClampNeg) otc sc rc cn so ++ (wS cI cJ aO opr opu ota ose oqu oim osu otc osc orc ocn oso ++ ([] : va_W))) := hD
  refine lv_aload_n hx hb dX2_copyFrom_134 rfl (lv_at hl 0 rfl) ?_
  refine lv_aload_n hx hb dX2_copyFrom_135 rfl (lv_at hl 1 rfl) ?_
  refine va_get (D := G) (ci := 2) (v := .int osc) (C := RX2) (T := TX2) (N := 12) hx hb hts uX2 hown hK hP 8 rfl rfl 8 (by decide) (hts _ kw43) (fun _ h9 => h9) rfl dX2_copyFrom_136 ?_
  refine va_put (D := G) (ci := 2) (ty := .int) (v := .int osc) (C := RX2) (T := TX2) (N := 12) hx hb hts uX2 tyX2 tyX2_ok nmX2 hown hK hP hD hS 0 rfl rfl 8 (by decide) (hts _ kw43) (fun _ h9 => h9) rfl (by decide +kernel) rfl rfl (Nat.le_of_ble_eq_true rfl) dX2_copyFrom_139 (fun H locs hP hD hS => ?_)
  have hP : va_P G vwCl (wS cI cJ aS (va_cpy opr pr (0 : Int32).toNatClampNeg (0 : Int32).toNatClampNeg (56 : Int32).toNatClampNeg) (va_cpy opu pu (0 : Int32).toNatClampNeg (0 : Int32).toNatClampNeg (8 : Int32).toNatClampNeg) (va_cpy ota ta (0 : Int32).toNatClampNeg (0 : Int32).toNatClampNeg (2 : Int32).toNatClampNeg) (va_cpy ose se (0 : Int32).toNatClampNeg (0 : Int32).toNatClampNeg (8 : Int32).toNatClampNeg) (va_cpy oqu qu (0 : Int32).toNatClampNeg (0 : Int32).toNatClampNeg (30 : Int32).toNatClampNeg) (va_cpy oim im (0 : Int32).toNatClampNeg (0 : Int32).toNatClampNeg (9 : Int32).toNatClampNeg) (va_cpy osu su (0 : Int32).toNatClampNeg (0 : Int32).toNatClampNeg (3 : Int32).toNatClampNeg) otc osc rc cn so ++ (wS cI cJ aO opr opu ota ose oqu oim osu otc osc orc ocn oso ++ ([] : va_W))) H := hP
  have hD : va_D A (wS cI cJ aS (va_cpy opr pr (0 : Int32).toNatClampNeg (0 : Int32).toNatClampNeg (56 : Int32).toNatClampNeg) (va_cpy opu pu (0 : Int32).toNatClampNeg (0 : Int32).toNatClampNeg (8 : Int32).toNatClampNeg) (va_cpy ota ta (0 : Int32).toNatClampNeg (0 : Int32).toNatClampNeg (2 : Int32).toNatClampNeg) (va_cpy ose se (0 : Int32).toNatClampNeg (0 : Int32).toNatClampNeg (8 : Int32).toNatClampNeg) (va_cpy oqu qu (0 : Int32).toNatClampNeg (0 : Int32).toNatClampNeg (30 : Int32).toNatClampNeg) (va_cpy oim im (0 : Int32).toNatClampNeg (0 : Int32).toNatClampNeg (9 : Int32).toNatClampNeg) (va_cpy osu su (0 : Int32).toNatClampNeg (0 : Int32).toNatClampNeg (3 : Int32).toNatClampNeg) otc osc rc cn so ++ (wS cI cJ aO opr opu ota ose oqu oim osu otc osc orc ocn oso ++ ([] : va_W))) := hD
  refine lv_aload_n hx hb dX2_copyFrom_142 rfl (lv_at hl 0 rfl) ?_
  refine lv_aload_n hx hb dX2_copyFrom_143 rfl (lv_at hl 1 rfl) ?_
  refine va_get (D := G) (ci := 2) (v := .int orc) (C := RX2) (T := TX2) (N := 12) hx hb hts uX2 hown hK hP 8 rfl rfl 9 (by decide) (hts _ kw45) (fun _ h9 => h9) rfl dX2_copyFrom_144 ?_
  refine va_put (D := G) (ci := 2) (ty := .int) (v := .int orc) (C := RX2) (T := TX2) (N := 12) hx hb hts uX2 tyX2 tyX2_ok nmX2 hown hK hP hD hS 0 rfl rfl 9 (by decide) (hts _ kw45) (fun _ h9 => h9) rfl (by decide +kernel) rfl rfl (Nat.le_of_ble_eq_true rfl) dX2_copyFrom_147 (fun H locs hP hD hS => ?_)
  have hP : va_P G vwCl (wS cI cJ aS (va_cpy opr pr (0 : Int32).toNatClampNeg (0 : Int32).toNatClampNeg (56 : Int32).toNatClampNeg) (va_cpy opu pu (0 : Int32).toNatClampNeg (0 : Int32).toNatClampNeg (8 : Int32).toNatClampNeg) (va_cpy ota ta (0 : Int32).toNatClampNeg (0 : Int32).toNatClampNeg (2 : Int32).toNatClampNeg) (va_cpy ose se (0 : Int32).toNatClampNeg (0 : Int32).toNatClampNeg (8 : Int32).toNatClampNeg) (va_cpy oqu qu (0 : Int32).toNatClampNeg (0 : Int32).toNatClampNeg (30 : Int32).toNatClampNeg) (va_cpy oim im (0 : Int32).toNatClampNeg (0 : Int32).toNatClampNeg (9 : Int32).toNatClampNeg) (va_cpy osu su (0 : Int32).toNatClampNeg (0 : Int32).toNatClampNeg (3 : Int32).toNatClampNeg) otc osc orc cn so ++ (wS cI cJ aO opr opu ota ose oqu oim osu otc osc orc ocn oso ++ ([] : va_W))) H := hP
  have hD : va_D A (wS cI cJ aS (va_cpy opr pr (0 : Int32).toNatClampNeg (0 : Int32).toNatClampNeg (56 : Int32).toNatClampNeg) (va_cpy opu pu (0 : Int32).toNatClampNeg (0 : Int32).toNatClampNeg (8 : Int32).toNatClampNeg) (va_cpy ota ta (0 : Int32).toNatClampNeg (0 : Int32).toNatClampNeg (2 : Int32).toNatClampNeg) (va_cpy ose se (0 : Int32).toNatClampNeg (0 : Int32).toNatClampNeg (8 : Int32).toNatClampNeg) (va_cpy oqu qu (0 : Int32).toNatClampNeg (0 : Int32).toNatClampNeg (30 : Int32).toNatClampNeg) (va_cpy oim im (0 : Int32).toNatClampNeg (0 : Int32).toNatClampNeg (9 : Int32).toNatClampNeg) (va_cpy osu su (0 : Int32).toNatClampNeg (0 : Int32).toNatClampNeg (3 : Int32).toNatClampNeg) otc osc orc cn so ++ (wS cI cJ aO opr opu ota ose oqu oim osu otc osc orc ocn oso ++ ([] : va_W))) := hD
  refine lv_aload_n hx hb dX2_copyFrom_150 rfl (lv_at hl 0 rfl) ?_
  refine lv_aload_n hx hb dX2_copyFrom_151 rfl (lv_at hl 1 rfl) ?_
  refine va_get (D := G) (ci := 2) (v := .int ocn) (C := RX2) (T := TX2) (N := 12) hx hb hts uX2 hown hK hP 8 rfl rfl 10 (by decide) (hts _ kw47) (fun _ h9 => h9) rfl dX2_copyFrom_152 ?_
  refine va_put (D := G) (ci := 2) (ty := .int) (v := .int ocn) (C := RX2) (T := TX2) (N := 12) hx hb hts uX2 tyX2 tyX2_ok nmX2 hown hK hP hD hS 0 rfl rfl 10 (by decide) (hts _ kw47) (fun _ h9 => h9) rfl (by decide +kernel) rfl rfl (Nat.le_of_ble_eq_true rfl) dX2_copyFrom_155 (fun H locs hP hD hS => ?_)
  have hP : va_P G vwCl (wS cI cJ aS (va_cpy opr pr (0 : Int32).toNatClampNeg (0 : Int32).toNatClampNeg (56 : Int32).toNatClampNeg) (va_cpy opu pu (0 : Int32).toNatClampNeg (0 : Int32).toNatClampNeg (8 : Int32).toNatClampNeg) (va_cpy ota ta (0 : Int32).toNatClampNeg (0 : Int32).toNatClampNeg (2 : Int32).toNatClampNeg) (va_cpy ose se (0 : Int32).toNatClampNeg (0 : Int32).toNatClampNeg (8 : Int32).toNatClampNeg) (va_cpy oqu qu (0 : Int32).toNatClampNeg (0 : Int32).toNatClampNeg (30 : Int32).toNatClampNeg) (va_cpy oim im (0 : Int32).toNatClampNeg (0 : Int32).toNatClampNeg (9 : Int32).toNatClampNeg) (va_cpy osu su (0 : Int32).toNatClampNeg (0 : Int32).toNatClampNeg (3 : Int32).toNatClampNeg) otc osc orc ocn so ++ (wS cI cJ aO opr opu ota ose oqu oim osu otc osc orc ocn oso ++ ([] : va_W))) H := hP
  have hD : va_D A (wS cI cJ aS (va_cpy opr pr (0 : Int32).toNatClampNeg (0 : Int32).toNatClampNeg (56 : Int32).toNatClampNeg) (va_cpy opu pu (0 : Int32).toNatClampNeg (0 : Int32).toNatClampNeg (8 : Int32).toNatClampNeg) (va_cpy ota ta (0 : Int32).toNatClampNeg (0 : Int32).toNatClampNeg (2 : Int32).toNatClampNeg) (va_cpy ose se (0 : Int32).toNatClampNeg (0 : Int32).toNatClampNeg (8 : Int32).toNatClampNeg) (va_cpy oqu qu (0 : Int32).toNatClampNeg (0 : Int32).toNatClampNeg (30 : Int32).toNatClampNeg) (va_cpy oim im (0 : Int32).toNatClampNeg (0 : Int32).toNatClampNeg (9 : Int32).toNatClampNeg) (va_cpy osu su (0 : Int32).toNatClampNeg (0 : Int32).toNatClampNeg (3 : Int32).toNatClampNeg) otc osc orc ocn so ++ (wS cI cJ aO opr opu ota ose oqu oim osu otc osc orc ocn oso ++ ([] : va_W))) := hD
  refine lv_aload_n hx hb dX2_copyFrom_158 rfl (lv_at hl 0 rfl) ?_
  refine lv_aload_n hx hb dX2_copyFrom_159 rfl (lv_at hl 1 rfl) ?_
  refine va_get (D := G) (ci := 2) (v := .int oso) (C := RX2) (T := TX2) (N := 12) hx hb hts uX2 hown hK hP 8 rfl rfl 11 (by decide) (hts _ kw49) (fun _ h9 => h9) rfl dX2_copyFrom_160 ?_
  refine va_put (D := G) (ci := 2) (ty := .int) (v := .int oso) (C := RX2) (T := TX2) (N := 12) hx hb hts uX2 tyX2 tyX2_ok nmX2 hown hK hP hD hS 0 rfl rfl 11 (by decide) (hts _ kw49) (fun _ h9 => h9) rfl (by decide +kernel) rfl rfl (Nat.le_of_ble_eq_true rfl) dX2_copyFrom_163 (fun H locs hP hD hS => ?_)
  have hP : va_P G vwCl (wS cI cJ aS (va_cpy opr pr (0 : Int32).toNatClampNeg (0 : Int32).toNatClampNeg (56 : Int32).toNatClampNeg) (va_cpy opu pu (0 : Int32).toNatClampNeg (0 : Int32).toNatClampNeg (8 : Int32).toNatClampNeg) (va_cpy ota ta (0 : Int32).toNatClampNeg (0 : Int32).toNatClampNeg (2 : Int32).toNatClampNeg) (va_cpy ose se (0 : Int32).toNatClampNeg (0 : Int32).toNatClampNeg (8 : Int32).toNatClampNeg) (va_cpy oqu qu (0 : Int32).toNatClampNeg (0 : Int32).toNatClampNeg (30 : Int32).toNatClampNeg) (va_cpy oim im (0 : Int32).toNatClampNeg (0 : Int32).toNatClampNeg (9 : Int32).toNatClampNeg) (va_cpy osu su (0 : Int32).toNatClampNeg (0 : Int32).toNatClampNeg (3 : Int32).toNatClampNeg) otc osc orc ocn oso ++ (wS cI cJ aO opr opu ota ose oqu oim osu otc osc orc ocn oso ++ ([] : va_W))) H := hP
  have hD : va_D A (wS cI cJ aS (va_cpy opr pr (0 : Int32).toNatClampNeg (0 : Int32).toNatClampNeg (56 : Int32).toNatClampNeg) (va_cpy opu pu (0 : Int32).toNatClampNeg (0 : Int32).toNatClampNeg (8 : Int32).toNatClampNeg) (va_cpy ota ta (0 : Int32).toNatClampNeg (0 : Int32).toNatClampNeg (2 : Int32).toNatClampNeg) (va_cpy ose se (0 : Int32).toNatClampNeg (0 : Int32).toNatClampNeg (8 : Int32).toNatClampNeg) (va_cpy oqu qu (0 : Int32).toNatClampNeg (0 : Int32).toNatClampNeg (30 : Int32).toNatClampNeg) (va_cpy oim im (0 : Int32).toNatClampNeg (0 : Int32).toNatClampNeg (9 : Int32).toNatClampNeg) (va_cpy osu su (0 : Int32).toNatClampNeg (0 : Int32).toNatClampNeg (3 : Int32).toNatClampNeg) otc osc orc ocn oso ++ (wS cI cJ aO opr opu ota ose oqu oim osu otc osc orc ocn oso ++ ([] : va_W))) := hD
  rw [← Option.some.inj h]
  exact krv hx hb hr hlk hP hD hS hK dX2_copyFrom_166

/-! X0_keep -/
def f_X0_keep (pr : Nat → Int32) (pu : Nat → Int32) (ta : Nat → Int32) (se : Nat → Int32) (qu : Nat → Int32) (im : Nat → Int32) (su : Nat → Int64) (tc : Int32) (sc : Int32) (rc : Int32) (cn : Int32) (so : Int32) (hs : Nat → SV) (ol : Int32) (ct : Int32) : Option ((Nat → SV) × Int32 × Int32) :=
  gd (ib ((ol + ct) - (ol + ct) / 5 * 5) 5) ((f_X2_copyFrom pr pu ta se qu im su tc sc rc cn so ((hs ((ol + ct) - (ol + ct) / 5 * 5).toNatClampNeg).1) ((hs ((ol + ct) - (ol + ct) / 5 * 5).toNatClampNeg).2.1) ((hs ((ol + ct) - (ol + ct) / 5 * 5).toNatClampNeg).2.2.1) ((hs ((ol + ct) - (ol + ct) / 5 * 5).toNatClampNeg).2.2.2.1) ((hs ((ol + ct) - (ol + ct) / 5 * 5).toNatClampNeg).2.2.2.2.1) ((hs ((ol + ct) - (ol + ct) / 5 * 5).toNatClampNeg).2.2.2.2.2.1) ((hs ((ol + ct) - (ol + ct) / 5 * 5).toNatClampNeg).2.2.2.2.2.2.1) ((hs ((ol + ct) - (ol + ct) / 5 * 5).toNatClampNeg).2.2.2.2.2.2.2.1) ((hs ((ol + ct) - (ol + ct) / 5 * 5).toNatClampNeg).2.2.2.2.2.2.2.2.1) ((hs ((ol + ct) - (ol + ct) / 5 * 5).toNatClampNeg).2.2.2.2.2.2.2.2.2.1) ((hs ((ol + ct) - (ol + ct) / 5 * 5).toNatClampNeg).2.2.2.2.2.2.2.2.2.2.1) ((hs ((ol + ct) - (ol + ct) / 5 * 5).toNatClampNeg).2.2.2.2.2.2.2.2.2.2.2)).bind (fun q18 => if 5 ≤ ct then (some ((updH hs ((ol + ct) - (ol + ct) / 5 * 5).toNatClampNeg q18), ((ol + 1) - (ol + 1) / 5 * 5), ct)) else (some ((updH hs ((ol + ct) - (ol + ct) / 5 * 5).toNatClampNeg q18), ol, (ct + 1)))))

set_option maxHeartbeats 4000000 in
set_option maxRecDepth 100000 in
theorem c_X0_keep (l : Launch) (G : va_G) (cI cJ cZ cO cA : ClassId) (e : Nat × Nat) (aS : Nat → Nat) (aH : Nat → Nat) (aK : Nat → Nat → Nat) (sz : Nat) (pr : Nat → Int32) (pu : Nat → Int32) (ta : Nat → Int32) (se : Nat → Int32) (qu : Nat → Int32) (im : Nat → Int32) (su : Nat → Int64) (tc : Int32) (sc : Int32) (rc : Int32) (cn : Int32) (so : Int32) (hs : Nat → SV) (ol : Int32) (ct : Int32) {res : (Nat → SV) × Int32 × Int32} (hf : f_X0_keep pr pu ta se qu im su tc sc rc cn so hs ol ct = some res) : MetV l yX0_keep cX0_keep 2 ({ frames := 2, cells := 0, slots := 0, locals := 61 } : Room) [.ref (aH 0), .ref (aS 0)] G (ty5 cI cJ cZ cO cA) e (wS cI cJ aS pr pu ta se qu im su tc sc rc cn so ++ (wH cI cJ cO aH aK hs ol ct ++ ([] : va_W))) (wS cI cJ aS pr pu ta se qu im su tc sc rc cn so ++ (wH cI cJ cO aH aK res.1 res.2.1 res.2.2 ++ ([] : va_W))) sz := by
  refine g_body (QQ := fun A => (qV G (ty5 cI cJ cZ cO cA) A (wS cI cJ aS pr pu ta se qu im su tc sc rc cn so ++ (wH cI cJ cO aH aK res.1 res.2.1 res.2.2 ++ ([] : va_W))))) (own := RX0) (by decide) rfl (Nat.le_of_ble_eq_true rfl) ?_
  intro p ev s m below meth c A ls hx hb hr hml hown hts hlk hA hP hD hS hK hE hl
  have hl : lv_has ls 2 [(0, .ref (aH 0)), (1, .ref (aS 0))] := hl
  show W p l ev ({ frames := 2, cells := 0, slots := 0, locals := 61 } : Room) s m ([.ref (aH 0), .ref (aS 0)] : List Value).toArray below meth c s.heap [] 0 0 (MQ below (qV G (ty5 cI cJ cZ cO cA) A (wS cI cJ aS pr pu ta se qu im su tc sc rc cn so ++ (wH cI cJ cO aH aK res.1 res.2.1 res.2.2 ++ ([] : va_W)))) ([.ref (aH 0), .ref (aS 0)] : List Value).toArray s 0 0 A) (F0 m 0 ls [])
  have h := hf
  unfold f_X0_keep at h
  refine lv_aload_n hx hb dX0_keep_0 rfl (lv_at hl 0 rfl) ?_
  refine va_get (D := G) (ci := 0) (v := .ref (aH 1)) (C := RX0) (T := TX0) (N := 3) hx hb hts uX0 hown hK hP 8 rfl rfl 0 (by decide) (hts _ kw86) (fun _ h9 => h9) rfl dX0_keep_1 ?_
  refine lv_aload_n hx hb dX0_keep_4 rfl (lv_at hl 0 rfl) ?_
  refine va_get (D := G) (ci := 0) (v := .int ol) (C := RX0) (T := TX0) (N := 3) hx hb hts uX0 hown hK hP 8 rfl rfl 1 (by decide) (hts _ kw87) (fun _ h9 => h9) rfl dX0_keep_5 ?_
  refine lv_aload_n hx hb dX0_keep_8 rfl (lv_at hl 0 rfl) ?_
  refine va_get (D := G) (ci := 0) (v := .int ct) (C := RX0) (T := TX0) (N := 3) hx hb hts uX0 hown hK hP 8 rfl rfl 2 (by decide) (hts _ kw88) (fun _ h9 => h9) rfl dX0_keep_9 ?_
  refine lv_iadd hx hb dX0_keep_12 ?_
  refine lv_iconst (v := 5) hx hb dX0_keep_13 (by decide) ?_
  refine lv_irem hx hb dX0_keep_14 (by decide) ?_
  obtain ⟨g2, h⟩ := gd_s h
  have k2 := ib_lt g2
  refine kald hx hb hK hP 9 3 rfl rfl rfl (ib_in g2) (hiF_at k2) dX0_keep_15 ?_
  generalize ((ol + ct) - (ol + ct) / 5 * 5).toNatClampNeg = i2 at h k2 ⊢
  rcases k_5 k2 with rfl | rfl | rfl | rfl | rfl
  · skip
    refine lv_aload_n hx hb dX0_keep_16 rfl (lv_at hl 1 rfl) ?_
    obtain ⟨q3, hq3, h⟩ := bd_s h
    refine kVv (n := 1) (C := RX2) (ws' := wS cI cJ aS pr pu ta se qu im su tc sc rc cn so ++ (wH cI cJ cO aH aK (updH hs 0 q3) ol ct ++ ([] : va_W))) (As := [.ref (aS 0)]) (rest := []) hx hb hml hown hts (c_X2_copyFrom l G cI cJ cZ cO cA e (aK 0) aS _ ((hs 0).1) ((hs 0).2.1) ((hs 0).2.2.1) ((hs 0).2.2.2.1) ((hs 0).2.2.2.2.1) ((hs 0).2.2.2.2.2.1) ((hs 0).2.2.2.2.2.2.1) ((hs 0).2.2.2.2.2.2.2.1) ((hs 0).2.2.2.2.2.2.2.2.1) ((hs 0).2.2.2.2.2.2.2.2.2.1) ((hs 0).2.2.2.2.2.2.2.2.2.2.1) ((hs 0).2.2.2.2.2.2.2.2.2.2.2) pr pu ta se qu im su tc sc rc cn so hq3) (tb_V kw198 kw199 kw200 kw2 kw201) rfl rfl (by decide +kernel) ⟨Nat.le_of_ble_eq_true rfl, Nat.le_of_ble_eq_true rfl⟩ hK hP hD hS hA hE 10 rfl rfl [10, 11, 12, 13, 14, 15, 16, 17, 0, 1, 2, 3, 4, 5, 6, 7] [8, 9, 18, 19, 20, 21, 22, 23, 24, 25, 26, 27, 28, 29, 30, 31, 32, 33, 34, 35, 36, 37, 38, 39, 40, 41, 42, 43, 44, 45, 46, 47, 48, 49] rfl rfl rfl 50 ⟨rfl, rfl⟩ (by decide +kernel) (by decide +kernel) rfl rfl hl.1 (Nat.le_of_ble_eq_true rfl) ⟨Nat.zero_le _, Nat.zero_le _⟩ dX0_keep_17 (fun H locs hP hD hS => ?_)
    refine lv_aload_n hx hb dX0_keep_20 rfl (lv_at hl 0 rfl) ?_
    refine va_get (D := G) (ci := 0) (v := .int ct) (C := RX0) (T := TX0) (N := 3) hx hb hts uX0 hown hK hP 8 rfl rfl 2 (by decide) (hts _ kw88) (fun _ h9 => h9) rfl dX0_keep_21 ?_
    refine lv_iconst (v := 5) hx hb dX0_keep_24 (by decide) ?_
    refine lv_icmp_ge (tgt := 41) hx hb dX0_keep_25 (by decide) (fun c4 => ?_) (fun c4 => ?_)
    · replace h := (if_pos c4).symm.trans h
      refine lv_aload_n hx hb dX0_keep_41 rfl (lv_at hl 0 rfl) ?_
      refine lv_aload_n hx hb dX0_keep_42 rfl (lv_at hl 0 rfl) ?_
      refine va_get (D := G) (ci := 0) (v := .int ol) (C := RX0) (T := TX0) (N := 3) hx hb hts uX0 hown hK hP 8 rfl rfl 1 (by decide) (hts _ kw87) (fun _ h9 => h9) rfl dX0_keep_43 ?_
      refine lv_iconst (v := 1) hx hb dX0_keep_46 (by decide) ?_
      refine lv_iadd hx hb dX0_keep_47 ?_
      refine lv_iconst (v := 5) hx hb dX0_keep_48 (by decide) ?_
      refine lv_irem hx hb dX0_keep_49 (by decide) ?_
      refine va_put (D := G) (ci := 0) (ty := .int) (v := .int ((ol + 1) - (ol + 1) / 5 * 5)) (C := RX0) (T := TX0) (N := 3) hx hb hts uX0 tyX0 tyX0_ok nmX0 hown hK hP hD hS 8 rfl rfl 1 (by decide) (hts _ kw87) (fun _ h9 => h9) rfl (by decide +kernel) rfl rfl (Nat.le_of_ble_eq_true rfl) dX0_keep_50 (fun H locs hP hD hS => ?_)
      have hP : va_P G vwCl (wS cI cJ aS pr pu ta se qu im su tc sc rc cn so ++ (wH cI cJ cO aH aK (updH hs 0 q3) ((ol + 1) - (ol + 1) / 5 * 5) ct ++ ([] : va_W))) H := hP
      have hD : va_D A (wS cI cJ aS pr pu ta se qu im su tc sc rc cn so ++ (wH cI cJ cO aH aK (updH hs 0 q3) ((ol + 1) - (ol + 1) / 5 * 5) ct ++ ([] : va_W))) := hD
      rw [← Option.some.inj h]
      exact krv hx hb hr hlk hP hD hS hK dX0_keep_53
    · replace h := (if_neg c4).symm.trans h
      refine lv_aload_n hx hb dX0_keep_28 rfl (lv_at hl 0 rfl) ?_
      refine lv_dup hx hb dX0_keep_29 rfl ?_
      refine va_get (D := G) (ci := 0) (v := .int ct) (C := RX0) (T := TX0) (N := 3) hx hb hts uX0 hown hK hP 8 rfl rfl 2 (by decide) (hts _ kw88) (fun _ h9 => h9) rfl dX0_keep_30 ?_
      refine lv_iconst (v := 1) hx hb dX0_keep_33 (by decide) ?_
      refine lv_iadd hx hb dX0_keep_34 ?_
      refine va_put (D := G) (ci := 0) (ty := .int) (v := .int (ct + 1)) (C := RX0) (T := TX0) (N := 3) hx hb hts uX0 tyX0 tyX0_ok nmX0 hown hK hP hD hS 8 rfl rfl 2 (by decide) (hts _ kw88) (fun _ h9 => h9) rfl (by decide +kernel) rfl rfl (Nat.le_of_ble_eq_true rfl) dX0_keep_35 (fun H locs hP hD hS => ?_)
      have hP : va_P G vwCl (wS cI cJ aS pr pu ta se qu im su tc sc rc cn so ++ (wH cI cJ cO aH aK (updH hs 0 q3) ol (ct + 1) ++ ([] : va_W))) H := hP
      have hD : va_D A (wS cI cJ aS pr pu ta se qu im su tc sc rc cn so ++ (wH cI cJ cO aH aK (updH hs 0 q3) ol (ct + 1) ++ ([] : va_W))) := hD
      refine lv_goto (tgt := 53) hx hb dX0_keep_38 (by decide) ?_
      rw [← Option.some.inj h]
      exact krv hx hb hr hlk hP hD hS hK dX0_keep_53
  · skip
    refine lv_aload_n hx hb dX0_keep_16 rfl (lv_at hl 1 rfl) ?_
    obtain ⟨q6, hq6, h⟩ := bd_s h
    refine kVv (n := 1) (C := RX2) (ws' := wS cI cJ aS pr pu ta se qu im su tc sc rc cn so ++ (wH cI cJ cO aH aK (updH hs 1 q6) ol ct ++ ([] : va_W))) (As := [.ref (aS 0)]) (rest := []) hx hb hml hown hts (c_X2_copyFrom l G cI cJ cZ cO cA e (aK 1) aS _ ((hs 1).1) ((hs 1).2.1) ((hs 1).2.2.1) ((hs 1).2.2.2.1) ((hs 1).2.2.2.2.1) ((hs 1).2.2.2.2.2.1) ((hs 1).2.2.2.2.2.2.1) ((hs 1).2.2.2.2.2.2.2.1) ((hs 1).2.2.2.2.2.2.2.2.1) ((hs 1).2.2.2.2.2.2.2.2.2.1) ((hs 1).2.2.2.2.2.2.2.2.2.2.1) ((hs 1).2.2.2.2.2.2.2.2.2.2.2) pr pu ta se qu im su tc sc rc cn so hq6) (tb_V kw198 kw199 kw200 kw2 kw201) rfl rfl (by decide +kernel) ⟨Nat.le_of_ble_eq_true rfl, Nat.le_of_ble_eq_true rfl⟩ hK hP hD hS hA hE 18 rfl rfl [18, 19, 20, 21, 22, 23, 24, 25, 0, 1, 2, 3, 4, 5, 6, 7] [8, 9, 10, 11, 12, 13, 14, 15, 16, 17, 26, 27, 28, 29, 30, 31, 32, 33, 34, 35, 36, 37, 38, 39, 40, 41, 42, 43, 44, 45, 46, 47, 48, 49] rfl rfl rfl 50 ⟨rfl, rfl⟩ (by decide +kernel) (by decide +kernel) rfl rfl hl.1 (Nat.le_of_ble_eq_true rfl) ⟨Nat.zero_le _, Nat.zero_le _⟩ dX0_keep_17 (fun H locs hP hD hS => ?_)
    refine lv_aload_n hx hb dX0_keep_20 rfl (lv_at hl 0 rfl) ?_
    refine va_get (D := G) (ci := 0) (v := .int ct) (C := RX0) (T := TX0) (N := 3) hx hb hts uX0 hown hK hP 8 rfl rfl 2 (by decide) (hts _ kw88) (fun _ h9 => h9) rfl dX0_keep_21 ?_
    refine lv_iconst (v := 5) hx hb dX0_keep_24 (by decide) ?_
    refine lv_icmp_ge (tgt := 41) hx hb dX0_keep_25 (by decide) (fun c7 => ?_) (fun c7 => ?_)
    · replace h := (if_pos c7).symm.trans h
      refine lv_aload_n hx hb dX0_keep_41 rfl (lv_at hl 0 rfl) ?_
      refine lv_aload_n hx hb dX0_keep_42 rfl (lv_at hl 0 rfl) ?_
      refine va_get (D := G) (ci := 0) (v := .int ol) (C := RX0) (T := TX0) (N := 3) hx hb hts uX0 hown hK hP 8 rfl rfl 1 (by decide) (hts _ kw87) (fun _ h9 => h9) rfl dX0_keep_43 ?_
      refine lv_iconst (v := 1) hx hb dX0_keep_46 (by decide) ?_
      refine lv_iadd hx hb dX0_keep_47 ?_
      refine lv_iconst (v := 5) hx hb dX0_keep_48 (by decide) ?_
      refine lv_irem hx hb dX0_keep_49 (by decide) ?_
      refine va_put (D := G) (ci := 0) (ty := .int) (v := .int ((ol + 1) - (ol + 1) / 5 * 5)) (C := RX0) (T := TX0) (N := 3) hx hb hts uX0 tyX0 tyX0_ok nmX0 hown hK hP hD hS 8 rfl rfl 1 (by decide) (hts _ kw87) (fun _ h9 => h9) rfl (by decide +kernel) rfl rfl (Nat.le_of_ble_eq_true rfl) dX0_keep_50 (fun H locs hP hD hS => ?_)
      have hP : va_P G vwCl (wS cI cJ aS pr pu ta se qu im su tc sc rc cn so ++ (wH cI cJ cO aH aK (updH hs 1 q6) ((ol + 1) - (ol + 1) / 5 * 5) ct ++ ([] : va_W))) H := hP
      have hD : va_D A (wS cI cJ aS pr pu ta se qu im su tc sc rc cn so ++ (wH cI cJ cO aH aK (updH hs 1 q6) ((ol + 1) - (ol + 1) / 5 * 5) ct ++ ([] : va_W))) := hD
      rw [← Option.some.inj h]
      exact krv hx hb hr hlk hP hD hS hK dX0_keep_53
    · replace h := (if_neg c7).symm.trans h
      refine lv_aload_n hx hb dX0_keep_28 rfl (lv_at hl 0 rfl) ?_
      refine lv_dup hx hb dX0_keep_29 rfl ?_
      refine va_get (D := G) (ci := 0) (v := .int ct) (C := RX0) (T := TX0) (N := 3) hx hb hts uX0 hown hK hP 8 rfl rfl 2 (by decide) (hts _ kw88) (fun _ h9 => h9) rfl dX0_keep_30 ?_
      refine lv_iconst (v := 1) hx hb dX0_keep_33 (by decide) ?_
      refine lv_iadd hx hb dX0_keep_34 ?_
      refine va_put (D := G) (ci := 0) (ty := .int) (v := .int (ct + 1)) (C := RX0) (T := TX0) (N := 3) hx hb hts uX0 tyX0 tyX0_ok nmX0 hown hK hP hD hS 8 rfl rfl 2 (by decide) (hts _ kw88) (fun _ h9 => h9) rfl (by decide +kernel) rfl rfl (Nat.le_of_ble_eq_true rfl) dX0_keep_35 (fun H locs hP hD hS => ?_)
      have hP : va_P G vwCl (wS cI cJ aS pr pu ta se qu im su tc sc rc cn so ++ (wH cI cJ cO aH aK (updH hs 1 q6) ol (ct + 1) ++ ([] : va_W))) H := hP
      have hD : va_D A (wS cI cJ aS pr pu ta se qu im su tc sc rc cn so ++ (wH cI cJ cO aH aK (updH hs 1 q6) ol (ct + 1) ++ ([] : va_W))) := hD
      refine lv_goto (tgt := 53) hx hb dX0_keep_38 (by decide) ?_
      rw [← Option.some.inj h]
      exact krv hx hb hr hlk hP hD hS hK dX0_keep_53
  · skip
    refine lv_aload_n hx hb dX0_keep_16 rfl (lv_at hl 1 rfl) ?_
    obtain ⟨q9, hq9, h⟩ := bd_s h
    refine kVv (n := 1) (C := RX2) (ws' := wS cI cJ aS pr pu ta se qu im su tc sc rc cn so ++ (wH cI cJ cO aH aK (updH hs 2 q9) ol ct ++ ([] : va_W))) (As := [.ref (aS 0)]) (rest := []) hx hb hml hown hts (c_X2_copyFrom l G cI cJ cZ cO cA e (aK 2) aS _ ((hs 2).1) ((hs 2).2.1) ((hs 2).2.2.1) ((hs 2).2.2.2.1) ((hs 2).2.2.2.2.1) ((hs 2).2.2.2.2.2.1) ((hs 2).2.2.2.2.2.2.1) ((hs 2).2.2.2.2.2.2.2.1) ((hs 2).2.2.2.2.2.2.2.2.1) ((hs 2).2.2.2.2.2.2.2.2.2.1) ((hs 2).2.2.2.2.2.2.2.2.2.2.1) ((hs 2).2.2.2.2.2.2.2.2.2.2.2) pr pu ta se qu im su tc sc rc cn so hq9) (tb_V kw198 kw199 kw200 kw2 kw201) rfl rfl (by decide +kernel) ⟨Nat.le_of_ble_eq_true rfl, Nat.le_of_ble_eq_true rfl⟩ hK hP hD hS hA hE 26 rfl rfl [26, 27, 28, 29, 30, 31, 32, 33, 0, 1, 2, 3, 4, 5, 6, 7] [8, 9, 10, 11, 12, 13, 14, 15, 16, 17, 18, 19, 20, 21, 22, 23, 24, 25, 34, 35, 36, 37, 38, 39, 40, 41, 42, 43, 44, 45, 46, 47, 48, 49] rfl rfl rfl 50 ⟨rfl, rfl⟩ (by decide +kernel) (by decide +kernel) rfl rfl hl.1 (Nat.le_of_ble_eq_true rfl) ⟨Nat.zero_le _, Nat.zero_le _⟩ dX0_keep_17 (fun H locs hP hD hS => ?_)
    refine lv_aload_n hx hb dX0_keep_20 rfl (lv_at hl 0 rfl) ?_
    refine va_get (D := G) (ci := 0) (v := .int ct) (C := RX0) (T := TX0) (N := 3) hx hb hts uX0 hown hK hP 8 rfl rfl 2 (by decide) (hts _ kw88) (fun _ h9 => h9) rfl dX0_keep_21 ?_
    refine lv_iconst (v := 5) hx hb dX0_keep_24 (by decide) ?_
    refine lv_icmp_ge (tgt := 41) hx hb dX0_keep_25 (by decide) (fun c10 => ?_) (fun c10 => ?_)
    · replace h := (if_pos c10).symm.trans h
      refine lv_aload_n hx hb dX0_keep_41 rfl (lv_at hl 0 rfl) ?_
      refine lv_aload_n hx hb dX0_keep_42 rfl (lv_at hl 0 rfl) ?_
      refine va_get (D := G) (ci := 0) (v := .int ol) (C := RX0) (T := TX0) (N := 3) hx hb hts uX0 hown hK hP 8 rfl rfl 1 (by decide) (hts _ kw87) (fun _ h9 => h9) rfl dX0_keep_43 ?_
      refine lv_iconst (v := 1) hx hb dX0_keep_46 (by decide) ?_
      refine lv_iadd hx hb dX0_keep_47 ?_
      refine lv_iconst (v := 5) hx hb dX0_keep_48 (by decide) ?_
      refine lv_irem hx hb dX0_keep_49 (by decide) ?_
      refine va_put (D := G) (ci := 0) (ty := .int) (v := .int ((ol + 1) - (ol + 1) / 5 * 5)) (C := RX0) (T := TX0) (N := 3) hx hb hts uX0 tyX0 tyX0_ok nmX0 hown hK hP hD hS 8 rfl rfl 1 (by decide) (hts _ kw87) (fun _ h9 => h9) rfl (by decide +kernel) rfl rfl (Nat.le_of_ble_eq_true rfl) dX0_keep_50 (fun H locs hP hD hS => ?_)
      have hP : va_P G vwCl (wS cI cJ aS pr pu ta se qu im su tc sc rc cn so ++ (wH cI cJ cO aH aK (updH hs 2 q9) ((ol + 1) - (ol + 1) / 5 * 5) ct ++ ([] : va_W))) H := hP
      have hD : va_D A (wS cI cJ aS pr pu ta se qu im su tc sc rc cn so ++ (wH cI cJ cO aH aK (updH hs 2 q9) ((ol + 1) - (ol + 1) / 5 * 5) ct ++ ([] : va_W))) := hD
      rw [← Option.some.inj h]
      exact krv hx hb hr hlk hP hD hS hK dX0_keep_53
    · replace h := (if_neg c10).symm.trans h
      refine lv_aload_n hx hb dX0_keep_28 rfl (lv_at hl 0 rfl) ?_
      refine lv_dup hx hb dX0_keep_29 rfl ?_
      refine va_get (D := G) (ci := 0) (v := .int ct) (C := RX0) (T := TX0) (N := 3) hx hb hts uX0 hown hK hP 8 rfl rfl 2 (by decide) (hts _ kw88) (fun _ h9 => h9) rfl dX0_keep_30 ?_
      refine lv_iconst (v := 1) hx hb dX0_keep_33 (by decide) ?_
      refine lv_iadd hx hb dX0_keep_34 ?_
      refine va_put (D := G) (ci := 0) (ty := .int) (v := .int (ct + 1)) (C := RX0) (T := TX0) (N := 3) hx hb hts uX0 tyX0 tyX0_ok nmX0 hown hK hP hD hS 8 rfl rfl 2 (by decide) (hts _ kw88) (fun _ h9 => h9) rfl (by decide +kernel) rfl rfl (Nat.le_of_ble_eq_true rfl) dX0_keep_35 (fun H locs hP hD hS => ?_)
      have hP : va_P G vwCl (wS cI cJ aS pr pu ta se qu im su tc sc rc cn so ++ (wH cI cJ cO aH aK (updH hs 2 q9) ol (ct + 1) ++ ([] : va_W))) H := hP
      have hD : va_D A (wS cI cJ aS pr pu ta se qu im su tc sc rc cn so ++ (wH cI cJ cO aH aK (updH hs 2 q9) ol (ct + 1) ++ ([] : va_W))) := hD
      refine lv_goto (tgt := 53) hx hb dX0_keep_38 (by decide) ?_
      rw [← Option.some.inj h]
      exact krv hx hb hr hlk hP hD hS hK dX0_keep_53
  · skip
    refine lv_aload_n hx hb dX0_keep_16 rfl (lv_at hl 1 rfl) ?_
    obtain ⟨q12, hq12, h⟩ := bd_s h
    refine kVv (n := 1) (C := RX2) (ws' := wS cI cJ aS pr pu ta se qu im su tc sc rc cn so ++ (wH cI cJ cO aH aK (updH hs 3 q12) ol ct ++ ([] : va_W))) (As := [.ref (aS 0)]) (rest := []) hx hb hml hown hts (c_X2_copyFrom l G cI cJ cZ cO cA e (aK 3) aS _ ((hs 3).1) ((hs 3).2.1) ((hs 3).2.2.1) ((hs 3).2.2.2.1) ((hs 3).2.2.2.2.1) ((hs 3).2.2.2.2.2.1) ((hs 3).2.2.2.2.2.2.1) ((hs 3).2.2.2.2.2.2.2.1) ((hs 3).2.2.2.2.2.2.2.2.1) ((hs 3).2.2.2.2.2.2.2.2.2.1) ((hs 3).2.2.2.2.2.2.2.2.2.2.1) ((hs 3).2.2.2.2.2.2.2.2.2.2.2) pr pu ta se qu im su tc sc rc cn so hq12) (tb_V kw198 kw199 kw200 kw2 kw201) rfl rfl (by decide +kernel) ⟨Nat.le_of_ble_eq_true rfl, Nat.le_of_ble_eq_true rfl⟩ hK hP hD hS hA hE 34 rfl rfl [34, 35, 36, 37, 38, 39, 40, 41, 0, 1, 2, 3, 4, 5, 6, 7] [8, 9, 10, 11, 12, 13, 14, 15, 16, 17, 18, 19, 20, 21, 22, 23, 24, 25, 26, 27, 28, 29, 30, 31, 32, 33, 42, 43, 44, 45, 46, 47, 48, 49] rfl rfl rfl 50 ⟨rfl, rfl⟩ (by decide +kernel) (by decide +kernel) rfl rfl hl.1 (Nat.le_of_ble_eq_true rfl) ⟨Nat.zero_le _, Nat.zero_le _⟩ dX0_keep_17 (fun H locs hP hD hS => ?_)
    refine lv_aload_n hx hb dX0_keep_20 rfl (lv_at hl 0 rfl) ?_
    refine va_get (D := G) (ci := 0) (v := .int ct) (C := RX0) (T := TX0) (N := 3) hx hb hts uX0 hown hK hP 8 rfl rfl 2 (by decide) (hts _ kw88) (fun _ h9 => h9) rfl dX0_keep_21 ?_
    refine lv_iconst (v := 5) hx hb dX0_keep_24 (by decide) ?_
    refine lv_icmp_ge (tgt := 41) hx hb dX0_keep_25 (by decide) (fun c13 => ?_) (fun c13 => ?_)
    · replace h := (if_pos c13).symm.trans h
      refine lv_aload_n hx hb dX0_keep_41 rfl (lv_at hl 0 rfl) ?_
      refine lv_aload_n hx hb dX0_keep_42 rfl (lv_at hl 0 rfl) ?_
      refine va_get (D := G) (ci := 0) (v := .int ol) (C := RX0) (T := TX0) (N := 3) hx hb hts uX0 hown hK hP 8 rfl rfl 1 (by decide) (hts _ kw87) (fun _ h9 => h9) rfl dX0_keep_43 ?_
      refine lv_iconst (v := 1) hx hb dX0_keep_46 (by decide) ?_
      refine lv_iadd hx hb dX0_keep_47 ?_
      refine lv_iconst (v := 5) hx hb dX0_keep_48 (by decide) ?_
      refine lv_irem hx hb dX0_keep_49 (by decide) ?_
      refine va_put (D := G) (ci := 0) (ty := .int) (v := .int ((ol + 1) - (ol + 1) / 5 * 5)) (C := RX0) (T := TX0) (N := 3) hx hb hts uX0 tyX0 tyX0_ok nmX0 hown hK hP hD hS 8 rfl rfl 1 (by decide) (hts _ kw87) (fun _ h9 => h9) rfl (by decide +kernel) rfl rfl (Nat.le_of_ble_eq_true rfl) dX0_keep_50 (fun H locs hP hD hS => ?_)
      have hP : va_P G vwCl (wS cI cJ aS pr pu ta se qu im su tc sc rc cn so ++ (wH cI cJ cO aH aK (updH hs 3 q12) ((ol + 1) - (ol + 1) / 5 * 5) ct ++ ([] : va_W))) H := hP
      have hD : va_D A (wS cI cJ aS pr pu ta se qu im su tc sc rc cn so ++ (wH cI cJ cO aH aK (updH hs 3 q12) ((ol + 1) - (ol + 1) / 5 * 5) ct ++ ([] : va_W))) := hD
      rw [← Option.some.inj h]
      exact krv hx hb hr hlk hP hD hS hK dX0_keep_53
    · replace h := (if_neg c13).symm.trans h
      refine lv_aload_n hx hb dX0_keep_28 rfl (lv_at hl 0 rfl) ?_
      refine lv_dup hx hb dX0_keep_29 rfl ?_
      refine va_get (D := G) (ci := 0) (v := .int ct) (C := RX0) (T := TX0) (N := 3) hx hb hts uX0 hown hK hP 8 rfl rfl 2 (by decide) (hts _ kw88) (fun _ h9 => h9) rfl dX0_keep_30 ?_
      refine lv_iconst (v := 1) hx hb dX0_keep_33 (by decide) ?_
      refine lv_iadd hx hb dX0_keep_34 ?_
      refine va_put (D := G) (ci := 0) (ty := .int) (v := .int (ct + 1)) (C := RX0) (T := TX0) (N := 3) hx hb hts uX0 tyX0 tyX0_ok nmX0 hown hK hP hD hS 8 rfl rfl 2 (by decide) (hts _ kw88) (fun _ h9 => h9) rfl (by decide +kernel) rfl rfl (Nat.le_of_ble_eq_true rfl) dX0_keep_35 (fun H locs hP hD hS => ?_)
      have hP : va_P G vwCl (wS cI cJ aS pr pu ta se qu im su tc sc rc cn so ++ (wH cI cJ cO aH aK (updH hs 3 q12) ol (ct + 1) ++ ([] : va_W))) H := hP
      have hD : va_D A (wS cI cJ aS pr pu ta se qu im su tc sc rc cn so ++ (wH cI cJ cO aH aK (updH hs 3 q12) ol (ct + 1) ++ ([] : va_W))) := hD
      refine lv_goto (tgt := 53) hx hb dX0_keep_38 (by decide) ?_
      rw [← Option.some.inj h]
      exact krv hx hb hr hlk hP hD hS hK dX0_keep_53
  · skip
    refine lv_aload_n hx hb dX0_keep_16 rfl (lv_at hl 1 rfl) ?_
    obtain ⟨q15, hq15, h⟩ := bd_s h
    refine kVv (n := 1) (C := RX2) (ws' := wS cI cJ aS pr pu ta se qu im su tc sc rc cn so ++ (wH cI cJ cO aH aK (updH hs 4 q15) ol ct ++ ([] : va_W))) (As := [.ref (aS 0)]) (rest := []) hx hb hml hown hts (c_X2_copyFrom l G cI cJ cZ cO cA e (aK 4) aS _ ((hs 4).1) ((hs 4).2.1) ((hs 4).2.2.1) ((hs 4).2.2.2.1) ((hs 4).2.2.2.2.1) ((hs 4).2.2.2.2.2.1) ((hs 4).2.2.2.2.2.2.1) ((hs 4).2.2.2.2.2.2.2.1) ((hs 4).2.2.2.2.2.2.2.2.1) ((hs 4).2.2.2.2.2.2.2.2.2.1) ((hs 4).2.2.2.2.2.2.2.2.2.2.1) ((hs 4).2.2.2.2.2.2.2.2.2.2.2) pr pu ta se qu im su tc sc rc cn so hq15) (tb_V kw198 kw199 kw200 kw2 kw201) rfl rfl (by decide +kernel) ⟨Nat.le_of_ble_eq_true rfl, Nat.le_of_ble_eq_true rfl⟩ hK hP hD hS hA hE 42 rfl rfl [42, 43, 44, 45, 46, 47, 48, 49, 0, 1, 2, 3, 4, 5, 6, 7] [8, 9, 10, 11, 12, 13, 14, 15, 16, 17, 18, 19, 20, 21, 22, 23, 24, 25, 26, 27, 28, 29, 30, 31, 32, 33, 34, 35, 36, 37, 38, 39, 40, 41] rfl rfl rfl 50 ⟨rfl, rfl⟩ (by decide +kernel) (by decide +kernel) rfl rfl hl.1 (Nat.le_of_ble_eq_true rfl) ⟨Nat.zero_le _, Nat.zero_le _⟩ dX0_keep_17 (fun H locs hP hD hS => ?_)
    refine lv_aload_n hx hb dX0_keep_20 rfl (lv_at hl 0 rfl) ?_
    refine va_get (D := G) (ci := 0) (v := .int ct) (C := RX0) (T := TX0) (N := 3) hx hb hts uX0 hown hK hP 8 rfl rfl 2 (by decide) (hts _ kw88) (fun _ h9 => h9) rfl dX0_keep_21 ?_
    refine lv_iconst (v := 5) hx hb dX0_keep_24 (by decide) ?_
    refine lv_icmp_ge (tgt := 41) hx hb dX0_keep_25 (by decide) (fun c16 => ?_) (fun c16 => ?_)
    · replace h := (if_pos c16).symm.trans h
      refine lv_aload_n hx hb dX0_keep_41 rfl (lv_at hl 0 rfl) ?_
      refine lv_aload_n hx hb dX0_keep_42 rfl (lv_at hl 0 rfl) ?_
      refine va_get (D := G) (ci := 0) (v := .int ol) (C := RX0) (T := TX0) (N := 3) hx hb hts uX0 hown hK hP 8 rfl rfl 1 (by decide) (hts _ kw87) (fun _ h9 => h9) rfl dX0_keep_43 ?_
      refine lv_iconst (v := 1) hx hb dX0_keep_46 (by decide) ?_
      refine lv_iadd hx hb dX0_keep_47 ?_
      refine lv_iconst (v := 5) hx hb dX0_keep_48 (by decide) ?_
      refine lv_irem hx hb dX0_keep_49 (by decide) ?_
      refine va_put (D := G) (ci := 0) (ty := .int) (v := .int ((ol + 1) - (ol + 1) / 5 * 5)) (C := RX0) (T := TX0) (N := 3) hx hb hts uX0 tyX0 tyX0_ok nmX0 hown hK hP hD hS 8 rfl rfl 1 (by decide) (hts _ kw87) (fun _ h9 => h9) rfl (by decide +kernel) rfl rfl (Nat.le_of_ble_eq_true rfl) dX0_keep_50 (fun H locs hP hD hS => ?_)
      have hP : va_P G vwCl (wS cI cJ aS pr pu ta se qu im su tc sc rc cn so ++ (wH cI cJ cO aH aK (updH hs 4 q15) ((ol + 1) - (ol + 1) / 5 * 5) ct ++ ([] : va_W))) H := hP
      have hD : va_D A (wS cI cJ aS pr pu ta se qu im su tc sc rc cn so ++ (wH cI cJ cO aH aK (updH hs 4 q15) ((ol + 1) - (ol + 1) / 5 * 5) ct ++ ([] : va_W))) := hD
      rw [← Option.some.inj h]
      exact krv hx hb hr hlk hP hD hS hK dX0_keep_53
    · replace h := (if_neg c16).symm.trans h
      refine lv_aload_n hx hb dX0_keep_28 rfl (lv_at hl 0 rfl) ?_
      refine lv_dup hx hb dX0_keep_29 rfl ?_
      refine va_get (D := G) (ci := 0) (v := .int ct) (C := RX0) (T := TX0) (N := 3) hx hb hts uX0 hown hK hP 8 rfl rfl 2 (by decide) (hts _ kw88) (fun _ h9 => h9) rfl dX0_keep_30 ?_
      refine lv_iconst (v := 1) hx hb dX0_keep_33 (by decide) ?_
      refine lv_iadd hx hb dX0_keep_34 ?_
      refine va_put (D := G) (ci := 0) (ty := .int) (v := .int (ct + 1)) (C := RX0) (T := TX0) (N := 3) hx hb hts uX0 tyX0 tyX0_ok nmX0 hown hK hP hD hS 8 rfl rfl 2 (by decide) (hts _ kw88) (fun _ h9 => h9) rfl (by decide +kernel) rfl rfl (Nat.le_of_ble_eq_true rfl) dX0_keep_35 (fun H locs hP hD hS => ?_)
      have hP : va_P G vwCl (wS cI cJ aS pr pu ta se qu im su tc sc rc cn so ++ (wH cI cJ cO aH aK (updH hs 4 q15) ol (ct + 1) ++ ([] : va_W))) H := hP
      have hD : va_D A (wS cI cJ aS pr pu ta se qu im su tc sc rc cn so ++ (wH cI cJ cO aH aK (updH hs 4 q15) ol (ct + 1) ++ ([] : va_W))) := hD
      refine lv_goto (tgt := 53) hx hb dX0_keep_38 (by decide) ?_
      rw [← Option.some.inj h]
      exact krv hx hb hr hlk hP hD hS hK dX0_keep_53

/-! X2_setProperty -/
def f_X2_setProperty (pr : Nat → Int32) (p0 : Int32) (p1 : Int32) (p2 : Int32) : Option ((Nat → Int32)) :=
  gd (ib ((p0 * 7) + p1) 56) (some (upd pr ((p0 * 7) + p1).toNatClampNeg p2))

set_option maxHeartbeats 4000000 in
set_option maxRecDepth 100000 in
theorem c_X2_setProperty (l : Launch) (G : va_G) (cI cJ cZ cO cA : ClassId) (e : Nat × Nat) (aS : Nat → Nat) (sz : Nat) (pr : Nat → Int32) (pu : Nat → Int32) (ta : Nat → Int32) (se : Nat → Int32) (qu : Nat → Int32) (im : Nat → Int32) (su : Nat → Int64) (tc : Int32) (sc : Int32) (rc : Int32) (cn : Int32) (so : Int32) (p0 : Int32) (p1 : Int32) (p2 : Int32) {res : (Nat → Int32)} (hf : f_X2_setProperty pr p0 p1 p2 = some res) : MetV l yX2_setProperty cX2_setProperty 4 ({ frames := 0, cells := 0, slots := 0, locals := 0 } : Room) [.ref (aS 0), .int p0, .int p1, .int p2] G (ty5 cI cJ cZ cO cA) e (wS cI cJ aS pr pu ta se qu im su tc sc rc cn so ++ ([] : va_W)) (wS cI cJ aS res pu ta se qu im su tc sc rc cn so ++ ([] : va_W)) sz := by
  refine g_body (QQ := fun A => (qV G (ty5 cI cJ cZ cO cA) A (wS cI cJ aS res pu ta se qu im su tc sc rc cn so ++ ([] : va_W)))) (own := RX2) (by decide) rfl (Nat.le_of_ble_eq_true rfl) ?_
  intro p ev s m below meth c A ls hx hb hr hml hown hts hlk hA hP hD hS hK hE hl
  have hl : lv_has ls 4 [(0, .ref (aS 0)), (1, .int p0), (2, .int p1), (3, .int p2)] := hl
  show W p l ev ({ frames := 0, cells := 0, slots := 0, locals := 0 } : Room) s m ([.ref (aS 0), .int p0, .int p1, .int p2] : List Value).toArray below meth c s.heap [] 0 0 (MQ below (qV G (ty5 cI cJ cZ cO cA) A (wS cI cJ aS res pu ta se qu im su tc sc rc cn so ++ ([] : va_W))) ([.ref (aS 0), .int p0, .int p1, .int p2] : List Value).toArray s 0 0 A) (F0 m 0 ls [])
  have h := hf
  unfold f_X2_setProperty at h
  refine lv_aload_n hx hb dX2_setProperty_0 rfl (lv_at hl 0 rfl) ?_
  refine va_get (D := G) (ci := 2) (v := .ref (aS 1)) (C := RX2) (T := TX2) (N := 12) hx hb hts uX2 hown hK hP 0 rfl rfl 0 (by decide) (hts _ kw28) (fun _ h9 => h9) rfl dX2_setProperty_1 ?_
  refine lv_iload_n hx hb dX2_setProperty_4 rfl (lv_at hl 1 rfl) ?_
  refine lv_bipush (v := 7) hx hb dX2_setProperty_5 (by decide) ?_
  refine lv_imul hx hb dX2_setProperty_7 ?_
  refine lv_iload_n hx hb dX2_setProperty_8 rfl (lv_at hl 2 rfl) ?_
  refine lv_iadd hx hb dX2_setProperty_9 ?_
  refine lv_iload_n hx hb dX2_setProperty_10 rfl (lv_at hl 3 rfl) ?_
  obtain ⟨g1, h⟩ := gd_s h
  refine va_iast hx hb hK hP hD hS 1 0 rfl rfl (ib_in g1) dX2_setProperty_11 (fun H locs hP hD hS => ?_)
  have hP : va_P G vwCl (wS cI cJ aS (upd pr ((p0 * 7) + p1).toNatClampNeg p2) pu ta se qu im su tc sc rc cn so ++ ([] : va_W)) H := hP
  have hD : va_D A (wS cI cJ aS (upd pr ((p0 * 7) + p1).toNatClampNeg p2) pu ta se qu im su tc sc rc cn so ++ ([] : va_W)) := hD
  rw [← Option.some.inj h]
  exact krv hx hb hr hlk hP hD hS hK dX2_setProperty_12

/-! X2_appendThruster -/
def f_X2_appendThruster (pr : Nat → Int32) (pu : Nat → Int32) (tc : Int32) (p0 : Int32) (p1 : Int32) (p2 : Int32) (p3 : Int32) (p4 : Int32) (p5 : Int32) : Option (Int32 × (Nat → Int32) × (Nat → Int32) × Int32) :=
  (f_X2_setProperty pr tc 0 p0).bind (fun q1 => (f_X2_setProperty q1 tc 1 p1).bind (fun q2 => (f_X2_setProperty q2 tc 2 p2).bind (fun q3 => (f_X2_setProperty q3 tc 3 p3).bind (fun q4 => (f_X2_setProperty q4 tc 4 p4).bind (fun q5 => (f_X2_setProperty q5 tc 5 p5).bind (fun q6 => (f_X2_setProperty q6 tc 6 0).bind (fun q7 => gd (ib tc 8) (some (tc, q7, (upd pu tc.toNatClampNeg 0), (tc + 1))))))))))

set_option maxHeartbeats 4000000 in
set_option maxRecDepth 100000 in
theorem c_X2_appendThruster (l : Launch) (G : va_G) (cI cJ cZ cO cA : ClassId) (e : Nat × Nat) (aS : Nat → Nat) (sz : Nat) (pr : Nat → Int32) (pu : Nat → Int32) (ta : Nat → Int32) (se : Nat → Int32) (qu : Nat → Int32) (im : Nat → Int32) (su : Nat → Int64) (tc : Int32) (sc : Int32) (rc : Int32) (cn : Int32) (so : Int32) (p0 : Int32) (p1 : Int32) (p2 : Int32) (p3 : Int32) (p4 : Int32) (p5 : Int32) {res : Int32 × (Nat → Int32) × (Nat → Int32) × Int32} (hf : f_X2_appendThruster pr pu tc p0 p1 p2 p3 p4 p5 = some res) : MetI l yX2_appendThruster cX2_appendThruster 8 .int ({ frames := 1, cells := 0, slots := 0, locals := 23 } : Room) [.ref (aS 0), .int p0, .int p1, .int p2, .int p3, .int p4, .int p5] G (ty5 cI cJ cZ cO cA) e (wS cI cJ aS pr pu ta se qu im su tc sc rc cn so ++ ([] : va_W)) (wS cI cJ aS res.2.1 res.2.2.1 ta se qu im su res.2.2.2 sc rc cn so ++ ([] : va_W)) sz res.1 := by
  refine g_body (QQ := fun A => (qI G (ty5 cI cJ cZ cO cA) A (wS cI cJ aS res.2.1 res.2.2.1 ta se qu im su res.2.2.2 sc rc cn so ++ ([] : va_W)) res.1)) (own := RX2) (by decide) rfl (Nat.le_of_ble_eq_true rfl) ?_
  intro p ev s m below meth c A ls hx hb hr hml hown hts hlk hA hP hD hS hK hE hl
  have hl : lv_has ls 8 [(0, .ref (aS 0)), (1, .int p0), (2, .int p1), (3, .int p2), (4, .int p3), (5, .int p4), (6, .int p5)] := hl
  show W p l ev ({ frames := 1, cells := 0, slots := 0, locals := 23 } : Room) s m ([.ref (aS 0), .int p0, .int p1, .int p2, .int p3, .int p4, .int p5] : List Value).toArray below meth c s.heap [] 0 0 (MQ below (qI G (ty5 cI cJ cZ cO cA) A (wS cI cJ aS res.2.1 res.2.2.1 ta se qu im su res.2.2.2 sc rc cn so ++ ([] : va_W)) res.1) ([.ref (aS 0), .int p0, .int p1, .int p2, .int p3, .int p4, .int p5] : List Value).toArray s 0 0 A) (F0 m 0 ls [])
  have h := hf
  unfold f_X2_appendThruster at h
  refine lv_aload_n hx hb dX2_appendThruster_0 rfl (lv_at hl 0 rfl) ?_
  refine va_get (D := G) (ci := 2) (v := .int tc) (C := RX2) (T := TX2) (N := 12) hx hb hts uX2 hown hK hP 0 rfl rfl 7 (by decide) (hts _ kw42) (fun _ h9 => h9) rfl dX2_appendThruster_1 ?_
  refine lv_istore (lv' := [(7, .int tc), (0, .ref (aS 0)), (1, .int p0), (2, .int p1), (3, .int p2), (4, .int p3), (5, .int p4), (6, .int p5)]) hx hb dX2_appendThruster_4 hl (by decide) rfl (fun ls hl => ?_)
  refine lv_aload_n hx hb dX2_appendThruster_6 rfl (lv_at hl 1 rfl) ?_
  refine lv_iload hx hb dX2_appendThruster_7 (lv_at hl 0 rfl) ?_
  refine lv_iconst (v := 0) hx hb dX2_appendThruster_9 (by decide) ?_
  refine lv_iload_n hx hb dX2_appendThruster_10 rfl (lv_at hl 2 rfl) ?_
  obtain ⟨q1, hq1, h⟩ := bd_s h
  refine kVv (n := 3) (C := RX2) (ws' := wS cI cJ aS q1 pu ta se qu im su tc sc rc cn so ++ ([] : va_W)) (As := [.int tc, .int 0, .int p0]) (rest := []) hx hb hml hown hts (c_X2_setProperty l G cI cJ cZ cO cA e aS _ pr pu ta se qu im su tc sc rc cn so tc 0 p0 hq1) (tb_V kw209 kw210 kw211 kw2 kw212) rfl rfl (by decide +kernel) ⟨Nat.le_of_ble_eq_true rfl, Nat.le_of_ble_eq_true rfl⟩ hK hP hD hS hA hE 0 rfl rfl [0, 1, 2, 3, 4, 5, 6, 7] [] rfl rfl rfl 8 ⟨rfl, rfl⟩ (by decide +kernel) (by decide +kernel) rfl rfl hl.1 (Nat.le_of_ble_eq_true rfl) ⟨Nat.zero_le _, Nat.zero_le _⟩ dX2_appendThruster_11 (fun H locs hP hD hS => ?_)
  refine lv_aload_n hx hb dX2_appendThruster_14 rfl (lv_at hl 1 rfl) ?_
  refine lv_iload hx hb dX2_appendThruster_15 (lv_at hl 0 rfl) ?_
  refine lv_iconst (v := 1) hx hb dX2_appendThruster_17 (by decide) ?_
  refine lv_iload_n hx hb dX2_appendThruster_18 rfl (lv_at hl 3 rfl) ?_
  obtain ⟨q2, hq2, h⟩ := bd_s h
  refine kVv (n := 3) (C := RX2) (ws' := wS cI cJ aS q2 pu ta se qu im su tc sc rc cn so ++ ([] : va_W)) (As := [.int tc, .int 1, .int p1]) (rest := []) hx hb hml hown hts (c_X2_setProperty l G cI cJ cZ cO cA e aS _ q1 pu ta se qu im su tc sc rc cn so tc 1 p1 hq2) (tb_V kw209 kw210 kw211 kw2 kw212) rfl rfl (by decide +kernel) ⟨Nat.le_of_ble_eq_true rfl, Nat.le_of_ble_eq_true rfl⟩ hK hP hD hS hA hE 0 rfl rfl [0, 1, 2, 3, 4, 5, 6, 7] [] rfl rfl rfl 8 ⟨rfl, rfl⟩ (by decide +kernel) (by decide +kernel) rfl rfl hl.1 (Nat.le_of_ble_eq_true rfl) ⟨Nat.zero_le _, Nat.zero_le _⟩ dX2_appendThruster_19 (fun H locs hP hD hS => ?_)
  refine lv_aload_n hx hb dX2_appendThruster_22 rfl (lv_at hl 1 rfl) ?_
  refine lv_iload hx hb dX2_appendThruster_23 (lv_at hl 0 rfl) ?_
  refine lv_iconst (v := 2) hx hb dX2_appendThruster_25 (by decide) ?_
  refine lv_iload_n hx hb dX2_appendThruster_26 rfl (lv_at hl 4 rfl) ?_
  obtain ⟨q3, hq3, h⟩ := bd_s h
  refine kVv (n := 3) (C := RX2) (ws' := wS cI cJ aS q3 pu ta se qu im su tc sc rc cn so ++ ([] : va_W)) (As := [.int tc, .int 2, .int p2]) (rest := []) hx hb hml hown hts (c_X2_setProperty l G cI cJ cZ cO cA e aS _ q2 pu ta se qu im su tc sc rc cn so tc 2 p2 hq3) (tb_V kw209 kw210 kw211 kw2 kw212) rfl rfl (by decide +kernel) ⟨Nat.le_of_ble_eq_true rfl, Nat.le_of_ble_eq_true rfl⟩ hK hP hD hS hA hE 0 rfl rfl [0, 1, 2, 3, 4, 5, 6, 7] [] rfl rfl rfl 8 ⟨rfl, rfl⟩ (by decide +kernel) (by decide +kernel) rfl rfl hl.1 (Nat.le_of_ble_eq_true rfl) ⟨Nat.zero_le _, Nat.zero_le _⟩ dX2_appendThruster_27 (fun H locs hP hD hS => ?_)
  refine lv_aload_n hx hb dX2_appendThruster_30 rfl (lv_at hl 1 rfl) ?_
  refine lv_iload hx hb dX2_appendThruster_31 (lv_at hl 0 rfl) ?_
  refine lv_iconst (v := 3) hx hb dX2_appendThruster_33 (by decide) ?_
  refine lv_iload hx hb dX2_appendThruster_34 (lv_at hl 5 rfl) ?_
  obtain ⟨q4, hq4, h⟩ := bd_s h
  refine kVv (n := 3) (C := RX2) (ws' := wS cI cJ aS q4 pu ta se qu im su tc sc rc cn so ++ ([] : va_W)) (As := [.int tc, .int 3, .int p3]) (rest := []) hx hb hml hown hts (c_X2_setProperty l G cI cJ cZ cO cA e aS _ q3 pu ta se qu im su tc sc rc cn so tc 3 p3 hq4) (tb_V kw209 kw210 kw211 kw2 kw212) rfl rfl (by decide +kernel) ⟨Nat.le_of_ble_eq_true rfl, Nat.le_of_ble_eq_true rfl⟩ hK hP hD hS hA hE 0 rfl rfl [0, 1, 2, 3, 4, 5, 6, 7] [] rfl rfl rfl 8 ⟨rfl, rfl⟩ (by decide +kernel) (by decide +kernel) rfl rfl hl.1 (Nat.le_of_ble_eq_true rfl) ⟨Nat.zero_le _, Nat.zero_le _⟩ dX2_appendThruster_36 (fun H locs hP hD hS => ?_)
  refine lv_aload_n hx hb dX2_appendThruster_39 rfl (lv_at hl 1 rfl) ?_
  refine lv_iload hx hb dX2_appendThruster_40 (lv_at hl 0 rfl) ?_
  refine lv_iconst (v := 4) hx hb dX2_appendThruster_42 (by decide) ?_
  refine lv_iload hx hb dX2_appendThruster_43 (lv_at hl 6 rfl) ?_
  obtain ⟨q5, hq5, h⟩ := bd_s h
  refine kVv (n := 3) (C := RX2) (ws' := wS cI cJ aS q5 pu ta se qu im su tc sc rc cn so ++ ([] : va_W)) (As := [.int tc, .int 4, .int p4]) (rest := []) hx hb hml hown hts (c_X2_setProperty l G cI cJ cZ cO cA e aS _ q4 pu ta se qu im su tc sc rc cn so tc 4 p4 hq5) (tb_V kw209 kw210 kw211 kw2 kw212) rfl rfl (by decide +kernel) ⟨Nat.le_of_ble_eq_true rfl, Nat.le_of_ble_eq_true rfl⟩ hK hP hD hS hA hE 0 rfl rfl [0, 1, 2, 3, 4, 5, 6, 7] [] rfl rfl rfl 8 ⟨rfl, rfl⟩ (by decide +kernel) (by decide +kernel) rfl rfl hl.1 (Nat.le_of_ble_eq_true rfl) ⟨Nat.zero_le _, Nat.zero_le _⟩ dX2_appendThruster_45 (fun H locs hP hD hS => ?_)
  refine lv_aload_n hx hb dX2_appendThruster_48 rfl (lv_at hl 1 rfl) ?_
  refine lv_iload hx hb dX2_appendThruster_49 (lv_at hl 0 rfl) ?_
  refine lv_iconst (v := 5) hx hb dX2_appendThruster_51 (by decide) ?_
  refine lv_iload hx hb dX2_appendThruster_52 (lv_at hl 7 rfl) ?_
  obtain ⟨q6, hq6, h⟩ := bd_s h
  refine kVv (n := 3) (C := RX2) (ws' := wS cI cJ aS q6 pu ta se qu im su tc sc rc cn so ++ ([] : va_W)) (As := [.int tc, .int 5, .int p5]) (rest := []) hx hb hml hown hts (c_X2_setProperty l G cI cJ cZ cO cA e aS _ q5 pu ta se qu im su tc sc rc cn so tc 5 p5 hq6) (tb_V kw209 kw210 kw211 kw2 kw212) rfl rfl (by decide +kernel) ⟨Nat.le_of_ble_eq_true rfl, Nat.le_of_ble_eq_true rfl⟩ hK hP hD hS hA hE 0 rfl rfl [0, 1, 2, 3, 4, 5, 6, 7] [] rfl rfl rfl 8 ⟨rfl, rfl⟩ (by decide +kernel) (by decide +kernel) rfl rfl hl.1 (Nat.le_of_ble_eq_true rfl) ⟨Nat.zero_le _, Nat.zero_le _⟩ dX2_appendThruster_54 (fun H locs hP hD hS => ?_)
  refine lv_aload_n hx hb dX2_appendThruster_57 rfl (lv_at hl 1 rfl) ?_
  refine lv_iload hx hb dX2_appendThruster_58 (lv_at hl 0 rfl) ?_
  refine lv_bipush (v := 6) hx hb dX2_appendThruster_60 (by decide) ?_
  refine lv_iconst (v := 0) hx hb dX2_appendThruster_62 (by decide) ?_
  obtain ⟨q7, hq7, h⟩ := bd_s h
  refine kVv (n := 3) (C := RX2) (ws' := wS cI cJ aS q7 pu ta se qu im su tc sc rc cn so ++ ([] : va_W)) (As := [.int tc, .int 6, .int 0]) (rest := []) hx hb hml hown hts (c_X2_setProperty l G cI cJ cZ cO cA e aS _ q6 pu ta se qu im su tc sc rc cn so tc 6 0 hq7) (tb_V kw209 kw210 kw211 kw2 kw212) rfl rfl (by decide +kernel) ⟨Nat.le_of_ble_eq_true rfl, Nat.le_of_ble_eq_true rfl⟩ hK hP hD hS hA hE 0 rfl rfl [0, 1, 2, 3, 4, 5, 6, 7] [] rfl rfl rfl 8 ⟨rfl, rfl⟩ (by decide +kernel) (by decide +kernel) rfl rfl hl.1 (Nat.le_of_ble_eq_true rfl) ⟨Nat.zero_le _, Nat.zero_le _⟩ dX2_appendThruster_63 (fun H locs hP hD hS => ?_)
  refine lv_aload_n hx hb dX2_appendThruster_66 rfl (lv_at hl 1 rfl) ?_
  refine va_get (D := G) (ci := 2) (v := .ref (aS 2)) (C := RX2) (T := TX2) (N := 12) hx hb hts uX2 hown hK hP 0 rfl rfl 1 (by decide) (hts _ kw29) (fun _ h9 => h9) rfl dX2_appendThruster_67 ?_
  refine lv_iload hx hb dX2_appendThruster_70 (lv_at hl 0 rfl) ?_
  refine lv_iconst (v := 0) hx hb dX2_appendThruster_72 (by decide) ?_
  obtain ⟨g8, h⟩ := gd_s h
  refine va_iast hx hb hK hP hD hS 2 0 rfl rfl (ib_in g8) dX2_appendThruster_73 (fun H locs hP hD hS => ?_)
  have hP : va_P G vwCl (wS cI cJ aS q7 (upd pu tc.toNatClampNeg 0) ta se qu im su tc sc rc cn so ++ ([] : va_W)) H := hP
  have hD : va_D A (wS cI cJ aS q7 (upd pu tc.toNatClampNeg 0) ta se qu im su tc sc rc cn so ++ ([] : va_W)) := hD
  refine lv_aload_n hx hb dX2_appendThruster_74 rfl (lv_at hl 1 rfl) ?_
  refine lv_iload hx hb dX2_appendThruster_75 (lv_at hl 0 rfl) ?_
  refine lv_iconst (v := 1) hx hb dX2_appendThruster_77 (by decide) ?_
  refine lv_iadd hx hb dX2_appendThruster_78 ?_
  refine va_put (D := G) (ci := 2) (ty := .int) (v := .int (tc + 1)) (C := RX2) (T := TX2) (N := 12) hx hb hts uX2 tyX2 tyX2_ok nmX2 hown hK hP hD hS 0 rfl rfl 7 (by decide) (hts _ kw42) (fun _ h9 => h9) rfl (by decide +kernel) rfl rfl (Nat.le_of_ble_eq_true rfl) dX2_appendThruster_79 (fun H locs hP hD hS => ?_)
  have hP : va_P G vwCl (wS cI cJ aS q7 (upd pu tc.toNatClampNeg 0) ta se qu im su (tc + 1) sc rc cn so ++ ([] : va_W)) H := hP
  have hD : va_D A (wS cI cJ aS q7 (upd pu tc.toNatClampNeg 0) ta se qu im su (tc + 1) sc rc cn so ++ ([] : va_W)) := hD
  refine lv_iload hx hb dX2_appendThruster_82 (lv_at hl 0 rfl) ?_
  rw [← Option.some.inj h]
  exact kri hx hb hr hlk rfl rfl hP hD hS hK dX2_appendThruster_84

/-! X4_addThruster -/
def f_X4_addThruster_j84 (pr : Nat → Int32) (pu : Nat → Int32) (tc : Int32) (hs : Nat → SV) (ol : Int32) (ct : Int32) : Option (Int32 × (Nat → Int32) × (Nat → Int32) × Int32 × (Nat → SV) × Int32 × Int32) :=
  some ((-2000000002), pr, pu, tc, hs, ol, ct)
def f_X4_addThruster_j72 (pr : Nat → Int32) (pu : Nat → Int32) (ta : Nat → Int32) (se : Nat → Int32) (qu : Nat → Int32) (im : Nat → Int32) (su : Nat → Int64) (tc : Int32) (sc : Int32) (rc : Int32) (cn : Int32) (so : Int32) (hs : Nat → SV) (ol : Int32) (ct : Int32) (v1 : Int32) (v2 : Int32) (v3 : Int32) (v4 : Int32) (v5 : Int32) (v6 : Int32) (v7 : Int32) (t0 : Int32) : Option (Int32 × (Nat → Int32) × (Nat → Int32) × Int32 × (Nat → SV) × Int32 × Int32) :=
  if v7 = 0 then (f_X4_addThruster_j84 pr pu tc hs ol ct) else (if t0 = 0 then (f_X4_addThruster_j84 pr pu tc hs ol ct) else (if tc < 8 then ((f_X0_keep pr pu ta se qu im su tc sc rc cn so hs ol ct).bind (fun q13 => (f_X2_appendThruster pr pu tc v1 v2 v3 v4 v5 v6).bind (fun q14 => some (q14.1, q14.2.1, q14.2.2.1, q14.2.2.2, q13.1, q13.2.1, q13.2.2)))) else (some ((-2000000004), pr, pu, tc, hs, ol, ct))))
def f_X4_addThruster_j71 (pr : Nat → Int32) (pu : Nat → Int32) (ta : Nat → Int32) (se : Nat → Int32) (qu : Nat → Int32) (im : Nat → Int32) (su : Nat → Int64) (tc : Int32) (sc : Int32) (rc : Int32) (cn : Int32) (so : Int32) (hs : Nat → SV) (ol : Int32) (ct : Int32) (v1 : Int32) (v2 : Int32) (v3 : Int32) (v4 : Int32) (v5 : Int32) (v6 : Int32) (v7 : Int32) : Option (Int32 × (Nat → Int32) × (Nat → Int32) × Int32 × (Nat → SV) × Int32 × Int32) :=
  f_X4_addThruster_j72 pr pu ta se qu im su tc sc rc cn so hs ol ct v1 v2 v3 v4 v5 v6 v7 0
def f_X4_addThruster_j34 (pr : Nat → Int32) (pu : Nat → Int32) (ta : Nat → Int32) (se : Nat → Int32) (qu : Nat → Int32) (im : Nat → Int32) (su : Nat → Int64) (tc : Int32) (sc : Int32) (rc : Int32) (cn : Int32) (so : Int32) (hs : Nat → SV) (ol : Int32) (ct : Int32) (v1 : Int32) (v2 : Int32) (v3 : Int32) (v4 : Int32) (v5 : Int32) (v6 : Int32) (t0 : Int32) : Option (Int32 × (Nat → Int32) × (Nat → Int32) × Int32 × (Nat → SV) × Int32 × Int32) :=
  (f_X4_isWithin v3 0 3).bind (fun q6 => if q6 = 0 then (f_X4_addThruster_j71 pr pu ta se qu im su tc sc rc cn so hs ol ct v1 v2 v3 v4 v5 v6 t0) else ((f_X4_isWithin v4 1 10).bind (fun q16 => if q16 = 0 then (f_X4_addThruster_j71 pr pu ta se qu im su tc sc rc cn so hs ol ct v1 v2 v3 v4 v5 v6 t0) else ((f_X4_isWithin v6 1 10).bind (fun q18 => if q18 = 0 then (f_X4_addThruster_j71 pr pu ta se qu im su tc sc rc cn so hs ol ct v1 v2 v3 v4 v5 v6 t0) else (f_X4_addThruster_j72 pr pu ta se qu im su tc sc rc cn so hs ol ct v1 v2 v3 v4 v5 v6 t0 1))))))
def f_X4_addThruster_j33 (pr : Nat → Int32) (pu : Nat → Int32) (ta : Nat → Int32) (se : Nat → Int32) (qu : Nat → Int32) (im : Nat → Int32) (su : Nat → Int64) (tc : Int32) (sc : Int32) (rc : Int32) (cn : Int32) (so : Int32) (hs : Nat → SV) (ol : Int32) (ct : Int32) (v1 : Int32) (v2 : Int32) (v3 : Int32) (v4 : Int32) (v5 : Int32) (v6 : Int32) : Option (Int32 × (Nat → Int32) × (Nat → Int32) × Int32 × (Nat → SV) × Int32 × Int32) :=
  f_X4_addThruster_j34 pr pu ta se qu im su tc sc rc cn so hs ol ct v1 v2 v3 v4 v5 v6 0
def f_X4_addThruster (ta : Nat → Int32) (se : Nat → Int32) (qu : Nat → Int32) (im : Nat → Int32) (su : Nat → Int64) (sc : Int32) (rc : Int32) (cn : Int32) (so : Int32) (pr : Nat → Int32) (pu : Nat → Int32) (tc : Int32) (hs : Nat → SV) (ol : Int32) (ct : Int32) (p0 : Int32) (p1 : Int32) (p2 : Int32) (p3 : Int32) (p4 : Int32) (p5 : Int32) : Option (Int32 × (Nat → Int32) × (Nat → Int32) × Int32 × (Nat → SV) × Int32 × Int32) :=
  (f_X4_isTank p4).bind (fun q1 => if q1 = 0 then (some ((-2000000001), pr, pu, tc, hs, ol, ct)) else ((f_X4_isAtMost p0 10).bind (fun q3 => if q3 = 0 then (f_X4_addThruster_j33 pr pu ta se qu im su tc sc rc cn so hs ol ct p0 p1 p2 p3 p4 p5) else ((f_X4_isAtMost p1 10).bind (fun q21 => if q21 = 0 then (f_X4_addThruster_j33 pr pu ta se qu im su tc sc rc cn so hs ol ct p0 p1 p2 p3 p4 p5) else (f_X4_addThruster_j34 pr pu ta se qu im su tc sc rc cn so hs ol ct p0 p1 p2 p3 p4 p5 1))))))

set_option maxHeartbeats 4000000 in
set_option maxRecDepth 100000 in
theorem c_X4_addThruster (l : Launch) (G : va_G) (cI cJ cZ cO cA : ClassId) (e : Nat × Nat) (aT : Nat) (aS : Nat → Nat) (aH : Nat → Nat) (aE : Nat → Nat) (aX : Nat → Nat) (aK : Nat → Nat → Nat) (sz : Nat) (pr : Nat → Int32) (pu : Nat → Int32) (ta : Nat → Int32) (se : Nat → Int32) (qu : Nat → Int32) (im : Nat → Int32) (su : Nat → Int64) (tc : Int32) (sc : Int32) (rc : Int32) (cn : Int32) (so : Int32) (hs : Nat → SV) (ol : Int32) (ct : Int32) (p0 : Int32) (p1 : Int32) (p2 : Int32) (p3 : Int32) (p4 : Int32) (p5 : Int32) {res : Int32 × (Nat → Int32) × (Nat → Int32) × Int32 × (Nat → SV) × Int32 × Int32} (hf : f_X4_addThruster ta se qu im su sc rc cn so pr pu tc hs ol ct p0 p1 p2 p3 p4 p5 = some res) : MetI l yX4_addThruster cX4_addThruster 9 .int ({ frames := 3, cells := 0, slots := 0, locals := 82 } : Room) [.ref aT, .int p0, .int p1, .int p2, .int p3, .int p4, .int p5] G (ty5 cI cJ cZ cO cA) e (wT aT (aS 0) (aH 0) (aE 0) (aX 0) ++ (wS cI cJ aS pr pu ta se qu im su tc sc rc cn so ++ (wH cI cJ cO aH aK hs ol ct ++ ([] : va_W)))) (wT aT (aS 0) (aH 0) (aE 0) (aX 0) ++ (wS cI cJ aS res.2.1 res.2.2.1 ta se qu im su res.2.2.2.1 sc rc cn so ++ (wH cI cJ cO aH aK res.2.2.2.2.1 res.2.2.2.2.2.1 res.2.2.2.2.2.2 ++ ([] : va_W)))) sz res.1 := by
  refine g_body (QQ := fun A => (qI G (ty5 cI cJ cZ cO cA) A (wT aT (aS 0) (aH 0) (aE 0) (aX 0) ++ (wS cI cJ aS res.2.1 res.2.2.1 ta se qu im su res.2.2.2.1 sc rc cn so ++ (wH cI cJ cO aH aK res.2.2.2.2.1 res.2.2.2.2.2.1 res.2.2.2.2.2.2 ++ ([] : va_W)))) res.1)) (own := RX4) (by decide) rfl (Nat.le_of_ble_eq_true rfl) ?_
  intro p ev s m below meth c A ls hx hb hr hml hown hts hlk hA hP hD hS hK hE hl
  have hl : lv_has ls 9 [(0, .ref aT), (1, .int p0), (2, .int p1), (3, .int p2), (4, .int p3), (5, .int p4), (6, .int p5)] := hl
  show W p l ev ({ frames := 3, cells := 0, slots := 0, locals := 82 } : Room) s m ([.ref aT, .int p0, .int p1, .int p2, .int p3, .int p4, .int p5] : List Value).toArray below meth c s.heap [] 0 0 (MQ below (qI G (ty5 cI cJ cZ cO cA) A (wT aT (aS 0) (aH 0) (aE 0) (aX 0) ++ (wS cI cJ aS res.2.1 res.2.2.1 ta se qu im su res.2.2.2.1 sc rc cn so ++ (wH cI cJ cO aH aK res.2.2.2.2.1 res.2.2.2.2.2.1 res.2.2.2.2.2.2 ++ ([] : va_W)))) res.1) ([.ref aT, .int p0, .int p1, .int p2, .int p3, .int p4, .int p5] : List Value).toArray s 0 0 A) (F0 m 0 ls [])
  have h := hf
  unfold f_X4_addThruster at h
  refine lv_iload hx hb dX4_addThruster_0 (lv_at hl 5 rfl) ?_
  obtain ⟨q1, hq1, h⟩ := bd_s h
  refine kSi (n := 1) (As := [.int p4]) (rest := []) hx hb hml hown hts (c_X4_isTank l G cI cJ cZ cO cA e _ p4 hq1) (tb_S kw182 kw183 kw1 kw184) rfl rfl (by decide +kernel) ⟨Nat.le_of_ble_eq_true rfl, Nat.le_of_ble_eq_true rfl⟩ hK hP hD hS hA hE rfl rfl hl.1 (Nat.le_of_ble_eq_true rfl) ⟨Nat.zero_le _, Nat.zero_le _⟩ dX4_addThruster_2 (fun H locs hP hD hS => ?_)
  refine lv_if_ne (tgt := 11) hx hb dX4_addThruster_5 (by decide) (fun c2 => ?_) (fun c2 => ?_)
  · replace h := (if_neg c2).symm.trans h
    refine lv_iload_n hx hb dX4_addThruster_11 rfl (lv_at hl 1 rfl) ?_
    refine lv_bipush (v := 10) hx hb dX4_addThruster_12 (by decide) ?_
    obtain ⟨q3, hq3, h⟩ := bd_s h
    refine kSi (n := 2) (As := [.int p0, .int 10]) (rest := []) hx hb hml hown hts (c_X4_isAtMost l G cI cJ cZ cO cA e _ p0 10 hq3) (tb_S kw189 kw190 kw1 kw191) rfl rfl (by decide +kernel) ⟨Nat.le_of_ble_eq_true rfl, Nat.le_of_ble_eq_true rfl⟩ hK hP hD hS hA hE rfl rfl hl.1 (Nat.le_of_ble_eq_true rfl) ⟨Nat.zero_le _, Nat.zero_le _⟩ dX4_addThruster_14 (fun H locs hP hD hS => ?_)
    have hJ5 : ∀ (pr_5 : Nat → Int32) (pu_5 : Nat → Int32) (tc_5 : Int32) (hs_5 : Nat → SV) (ol_5 : Int32) (ct_5 : Int32) (t0_5 : Int32) (H : Heap) (locs : List Loc) (ls : Array Slot), f_X4_addThruster_j34 pr_5 pu_5 ta se qu im su tc_5 sc rc cn so hs_5 ol_5 ct_5 p0 p1 p2 p3 p4 p5 t0_5 = some res → va_P G vwCl (wT aT (aS 0) (aH 0) (aE 0) (aX 0) ++ (wS cI cJ aS pr_5 pu_5 ta se qu im su tc_5 sc rc cn so ++ (wH cI cJ cO aH aK hs_5 ol_5 ct_5 ++ ([] : va_W)))) H → va_D A (wT aT (aS 0) (aH 0) (aE 0) (aX 0) ++ (wS cI cJ aS pr_5 pu_5 ta se qu im su tc_5 sc rc cn so ++ (wH cI cJ cO aH aK hs_5 ol_5 ct_5 ++ ([] : va_W)))) → va_S A s.heap H locs → lv_has ls 9 [(0, .ref aT), (1, .int p0), (2, .int p1), (3, .int p2), (4, .int p3), (5, .int p4), (6, .int p5)] → W p l ev ({ frames := 3, cells := 0, slots := 0, locals := 82 } : Room) s m ([.ref aT, .int p0, .int p1, .int p2, .int p3, .int p4, .int p5] : List Value).toArray below meth c H locs 0 0 (MQ below (qI G (ty5 cI cJ cZ cO cA) A (wT aT (aS 0) (aH 0) (aE 0) (aX 0) ++ (wS cI cJ aS res.2.1 res.2.2.1 ta se qu im su res.2.2.2.1 sc rc cn so ++ (wH cI cJ cO aH aK res.2.2.2.2.1 res.2.2.2.2.2.1 res.2.2.2.2.2.2 ++ ([] : va_W)))) res.1) ([.ref aT, .int p0, .int p1, .int p2, .int p3, .int p4, .int p5] : List Value).toArray s 0 0 A) (F0 m 34 ls [.int t0_5]) := by
      intro pr_5 pu_5 tc_5 hs_5 ol_5 ct_5 t0_5 H locs ls h hP hD hS hl
      unfold f_X4_addThruster_j34 at h
      refine lv_istore (lv' := [(7, .int t0_5), (0, .ref aT), (1, .int p0), (2, .int p1), (3, .int p2), (4, .int p3), (5, .int p4), (6, .int p5)]) hx hb dX4_addThruster_34 hl (by decide) rfl (fun ls hl => ?_)
      refine lv_iload_n hx hb dX4_addThruster_36 rfl (lv_at hl 4 rfl) ?_
      refine lv_iconst (v := 0) hx hb dX4_addThruster_37 (by decide) ?_
      refine lv_iconst (v := 3) hx hb dX4_addThruster_38 (by decide) ?_
      obtain ⟨q6, hq6, h⟩ := bd_s h
      refine kSi (n := 3) (As := [.int p2, .int 0, .int 3]) (rest := []) hx hb hml hown hts (c_X4_isWithin l G cI cJ cZ cO cA e _ p2 0 3 hq6) (tb_S kw185 kw186 kw1 kw187) rfl rfl (by decide +kernel) ⟨Nat.le_of_ble_eq_true rfl, Nat.le_of_ble_eq_true rfl⟩ hK hP hD hS hA hE rfl rfl hl.1 (Nat.le_of_ble_eq_true rfl) ⟨Nat.zero_le _, Nat.zero_le _⟩ dX4_addThruster_39 (fun H locs hP hD hS => ?_)
      have hJ8 : ∀ (pr_8 : Nat → Int32) (pu_8 : Nat → Int32) (tc_8 : Int32) (hs_8 : Nat → SV) (ol_8 : Int32) (ct_8 : Int32) (v7_8 : Int32) (t0_8 : Int32) (H : Heap) (locs : List Loc) (ls : Array Slot), f_X4_addThruster_j72 pr_8 pu_8 ta se qu im su tc_8 sc rc cn so hs_8 ol_8 ct_8 p0 p1 p2 p3 p4 p5 v7_8 t0_8 = some res → va_P G vwCl (wT aT (aS 0) (aH 0) (aE 0) (aX 0) ++ (wS cI cJ aS pr_8 pu_8 ta se qu im su tc_8 sc rc cn so ++ (wH cI cJ cO aH aK hs_8 ol_8 ct_8 ++ ([] : va_W)))) H → va_D A (wT aT (aS 0) (aH 0) (aE 0) (aX 0) ++ (wS cI cJ aS pr_8 pu_8 ta se qu im su tc_8 sc rc cn so ++ (wH cI cJ cO aH aK hs_8 ol_8 ct_8 ++ ([] : va_W)))) → va_S A s.heap H locs → lv_has ls 9 [(0, .ref aT), (1, .int p0), (2, .int p1), (3, .int p2), (4, .int p3), (5, .int p4), (6, .int p5), (7, .int v7_8)] → W p l ev ({ frames := 3, cells := 0, slots := 0, locals := 82 } : Room) s m ([.ref aT, .int p0, .int p1, .int p2, .int p3, .int p4, .int p5] : List Value).toArray below meth c H locs 0 0 (MQ below (qI G (ty5 cI cJ cZ cO cA) A (wT aT (aS 0) (aH 0) (aE 0) (aX 0) ++ (wS cI cJ aS res.2.1 res.2.2.1 ta se qu im su res.2.2.2.1 sc rc cn so ++ (wH cI cJ cO aH aK res.2.2.2.2.1 res.2.2.2.2.2.1 res.2.2.2.2.2.2 ++ ([] : va_W)))) res.1) ([.ref aT, .int p0, .int p1, .int p2, .int p3, .int p4, .int p5] : List Value).toArray s 0 0 A) (F0 m 72 ls [.int t0_8]) := by
        intro pr_8 pu_8 tc_8 hs_8 ol_8 ct_8 v7_8 t0_8 H locs ls h hP hD hS hl
        unfold f_X4_addThruster_j72 at h
        refine lv_istore (lv' := [(8, .int t0_8), (0, .ref aT), (1, .int p0), (2, .int p1), (3, .int p2), (4, .int p3), (5, .int p4), (6, .int p5), (7, .int v7_8)]) hx hb dX4_addThruster_72 hl (by decide) rfl (fun ls hl => ?_)
        refine lv_iload hx hb dX4_addThruster_74 (lv_at hl 8 rfl) ?_
        have hJ10 : ∀ (pr_10 : Nat → Int32) (pu_10 : Nat → Int32) (tc_10 : Int32) (hs_10 : Nat → SV) (ol_10 : Int32) (ct_10 : Int32) (H : Heap) (locs : List Loc) (ls : Array Slot), f_X4_addThruster_j84 pr_10 pu_10 tc_10 hs_10 ol_10 ct_10 = some res → va_P G vwCl (wT aT (aS 0) (aH 0) (aE 0) (aX 0) ++ (wS cI cJ aS pr_10 pu_10 ta se qu im su tc_10 sc rc cn so ++ (wH cI cJ cO aH aK hs_10 ol_10 ct_10 ++ ([] : va_W)))) H → va_D A (wT aT (aS 0) (aH 0) (aE 0) (aX 0) ++ (wS cI cJ aS pr_10 pu_10 ta se qu im su tc_10 sc rc cn so ++ (wH cI cJ cO aH aK hs_10 ol_10 ct_10 ++ ([] : va_W)))) → va_S A s.heap H locs → lv_has ls 9 [] → W p l ev ({ frames := 3, cells := 0, slots := 0, locals := 82 } : Room) s m ([.ref aT, .int p0, .int p1, .int p2, .int p3, .int p4, .int p5] : List Value).toArray below meth c H locs 0 0 (MQ below (qI G (ty5 cI cJ cZ cO cA) A (wT aT (aS 0) (aH 0) (aE 0) (aX 0) ++ (wS cI cJ aS res.2.1 res.2.2.1 ta se qu im su res.2.2.2.1 sc rc cn so ++ (wH cI cJ cO aH aK res.2.2.2.2.1 res.2.2.2.2.2.1 res.2.2.2.2.2.2 ++ ([] : va_W)))) res.1) ([.ref aT, .int p0, .int p1, .int p2, .int p3, .int p4, .int p5] : List Value).toArray s 0 0 A) (F0 m 84 ls []) := by
          intro pr_10 pu_10 tc_10 hs_10 ol_10 ct_10 H locs ls h hP hD hS hl
          unfold f_X4_addThruster_j84 at h
          refine lv_ldc (v := (-2000000002)) hx hb hown (hts _ kw192) dX4_addThruster_84 ?_
          rw [← Option.some.inj h]
          exact kri hx hb hr hlk rfl rfl hP hD hS hK dX4_addThruster_86
        refine lv_if_eq (tgt := 84) hx hb dX4_addThruster_76 (by decide) (fun c9 => ?_) (fun c9 => ?_)
        · replace h := (if_pos c9).symm.trans h
          exact hJ10 pr_8 pu_8 tc_8 hs_8 ol_8 ct_8 _ _ _ h hP hD hS (lv_sub hl [] rfl)
        · replace h := (if_neg c9).symm.trans h
          refine lv_iload hx hb dX4_addThruster_79 (lv_at hl 0 rfl) ?_
          refine lv_if_ne (tgt := 87) hx hb dX4_addThruster_81 (by decide) (fun c11 => ?_) (fun c11 => ?_)
          · replace h := (if_neg c11).symm.trans h
            refine lv_aload_n hx hb dX4_addThruster_87 rfl (lv_at hl 1 rfl) ?_
            refine va_get (D := G) (ci := 4) (v := .ref (aS 0)) (C := RX4) (T := TX4) (N := 4) hx hb hts uX4 hown hK hP 0 rfl rfl 0 (by decide) (hts _ kw165) (fun _ h9 => h9) rfl dX4_addThruster_88 ?_
            refine va_getN (D := G) (ci := 2) (v := .int tc_8) (C := RX2) (T := TX2) (N := 12) hx hb hts uX2 hown hK hP 1 rfl rfl 7 (by decide) (hE.nw nk41) (fun _ h9 => h9) rfl dX4_addThruster_91 ?_
            refine lv_bipush (v := 8) hx hb dX4_addThruster_94 (by decide) ?_
            refine lv_icmp_lt (tgt := 102) hx hb dX4_addThruster_96 (by decide) (fun c12 => ?_) (fun c12 => ?_)
            · replace h := (if_pos c12).symm.trans h
              refine lv_aload_n hx hb dX4_addThruster_102 rfl (lv_at hl 1 rfl) ?_
              refine va_get (D := G) (ci := 4) (v := .ref (aH 0)) (C := RX4) (T := TX4) (N := 4) hx hb hts uX4 hown hK hP 0 rfl rfl 1 (by decide) (hts _ kw166) (fun _ h9 => h9) rfl dX4_addThruster_103 ?_
              refine lv_aload_n hx hb dX4_addThruster_106 rfl (lv_at hl 1 rfl) ?_
              refine va_get (D := G) (ci := 4) (v := .ref (aS 0)) (C := RX4) (T := TX4) (N := 4) hx hb hts uX4 hown hK hP 0 rfl rfl 0 (by decide) (hts _ kw165) (fun _ h9 => h9) rfl dX4_addThruster_107 ?_
              obtain ⟨q13, hq13, h⟩ := bd_s h
              refine kVv (n := 1) (C := RX0) (ws' := wT aT (aS 0) (aH 0) (aE 0) (aX 0) ++ (wS cI cJ aS pr_8 pu_8 ta se qu im su tc_8 sc rc cn so ++ (wH cI cJ cO aH aK q13.1 q13.2.1 q13.2.2 ++ ([] : va_W)))) (As := [.ref (aS 0)]) (rest := []) hx hb hml hown hts (c_X0_keep l G cI cJ cZ cO cA e aS aH aK _ pr_8 pu_8 ta se qu im su tc_8 sc rc cn so hs_8 ol_8 ct_8 hq13) (tb_V kw194 kw195 kw196 kw4 kw197) rfl rfl (by decide +kernel) ⟨Nat.le_of_ble_eq_true rfl, Nat.le_of_ble_eq_true rfl⟩ hK hP hD hS hA hE 9 rfl rfl [1, 2, 3, 4, 5, 6, 7, 8, 9, 10, 11, 12, 13, 14, 15, 16, 17, 18, 19, 20, 21, 22, 23, 24, 25, 26, 27, 28, 29, 30, 31, 32, 33, 34, 35, 36, 37, 38, 39, 40, 41, 42, 43, 44, 45, 46, 47, 48, 49, 50] [0] rfl rfl rfl 51 ⟨rfl, rfl⟩ (by decide +kernel) (by decide +kernel) rfl rfl hl.1 (Nat.le_of_ble_eq_true rfl) ⟨Nat.zero_le _, Nat.zero_le _⟩ dX4_addThruster_110 (fun H locs hP hD hS => ?_)
              refine lv_aload_n hx hb dX4_addThruster_113 rfl (lv_at hl 1 rfl) ?_
              refine va_get (D := G) (ci := 4) (v := .ref (aS 0)) (C := RX4) (T := TX4) (N := 4) hx hb hts uX4 hown hK hP 0 rfl rfl 0 (by decide) (hts _ kw165) (fun _ h9 => h9) rfl dX4_addThruster_114 ?_
              refine lv_iload_n hx hb dX4_addThruster_117 rfl (lv_at hl 2 rfl) ?_
              refine lv_iload_n hx hb dX4_addThruster_118 rfl (lv_at hl 3 rfl) ?_
              refine lv_iload_n hx hb dX4_addThruster_119 rfl (lv_at hl 4 rfl) ?_
              refine lv_iload hx hb dX4_addThruster_120 (lv_at hl 5 rfl) ?_
              refine lv_iload hx hb dX4_addThruster_122 (lv_at hl 6 rfl) ?_
              refine lv_iload hx hb dX4_addThruster_124 (lv_at hl 7 rfl) ?_
              obtain ⟨q14, hq14, h⟩ := bd_s h
              refine kVi (n := 6) (C := RX2) (ws' := wT aT (aS 0) (aH 0) (aE 0) (aX 0) ++ (wS cI cJ aS q14.2.1 q14.2.2.1 ta se qu im su q14.2.2.2 sc rc cn so ++ (wH cI cJ cO aH aK q13.1 q13.2.1 q13.2.2 ++ ([] : va_W)))) (As := [.int p0, .int p1, .int p2, .int p3, .int p4, .int p5]) (rest := []) hx hb hml hown hts (c_X2_appendThruster l G cI cJ cZ cO cA e aS _ pr_8 pu_8 ta se qu im su tc_8 sc rc cn so p0 p1 p2 p3 p4 p5 hq14) (tb_V kw205 kw206 kw207 kw2 kw208) rfl rfl (by decide +kernel) ⟨Nat.le_of_ble_eq_true rfl, Nat.le_of_ble_eq_true rfl⟩ hK hP hD hS hA hE 1 rfl rfl [1, 2, 3, 4, 5, 6, 7, 8] [0, 9, 10, 11, 12, 13, 14, 15, 16, 17, 18, 19, 20, 21, 22, 23, 24, 25, 26, 27, 28, 29, 30, 31, 32, 33, 34, 35, 36, 37, 38, 39, 40, 41, 42, 43, 44, 45, 46, 47, 48, 49, 50] rfl rfl rfl 51 ⟨rfl, rfl⟩ (by decide +kernel) (by decide +kernel) rfl rfl hl.1 (Nat.le_of_ble_eq_true rfl) ⟨Nat.zero_le _, Nat.zero_le _⟩ dX4_addThruster_126 (fun H locs hP hD hS => ?_)
              rw [← Option.some.inj h]
              exact kri hx hb hr hlk rfl rfl hP hD hS hK dX4_addThruster_129
            · replace h := (if_neg c12).symm.trans h
              refine lv_ldc (v := (-2000000004)) hx hb hown (hts _ kw193) dX4_addThruster_99 ?_
              rw [← Option.some.inj h]
              exact kri hx hb hr hlk rfl rfl hP hD hS hK dX4_addThruster_101
          · replace h := (if_pos c11).symm.trans h
            exact hJ10 pr_8 pu_8 tc_8 hs_8 ol_8 ct_8 _ _ _ h hP hD hS (lv_sub hl [] rfl)
      have hJ15 : ∀ (pr_15 : Nat → Int32) (pu_15 : Nat → Int32) (tc_15 : Int32) (hs_15 : Nat → SV) (ol_15 : Int32) (ct_15 : Int32) (v7_15 : Int32) (H : Heap) (locs : List Loc) (ls : Array Slot), f_X4_addThruster_j71 pr_15 pu_15 ta se qu im su tc_15 sc rc cn so hs_15 ol_15 ct_15 p0 p1 p2 p3 p4 p5 v7_15 = some res → va_P G vwCl (wT aT (aS 0) (aH 0) (aE 0) (aX 0) ++ (wS cI cJ aS pr_15 pu_15 ta se qu im su tc_15 sc rc cn so ++ (wH cI cJ cO aH aK hs_15 ol_15 ct_15 ++ ([] : va_W)))) H → va_D A (wT aT (aS 0) (aH 0) (aE 0) (aX 0) ++ (wS cI cJ aS pr_15 pu_15 ta se qu im su tc_15 sc rc cn so ++ (wH cI cJ cO aH aK hs_15 ol_15 ct_15 ++ ([] : va_W)))) → va_S A s.heap H locs → lv_has ls 9 [(0, .ref aT), (1, .int p0), (2, .int p1), (3, .int p2), (4, .int p3), (5, .int p4), (6, .int p5), (7, .int v7_15)] → W p l ev ({ frames := 3, cells := 0, slots := 0, locals := 82 } : Room) s m ([.ref aT, .int p0, .int p1, .int p2, .int p3, .int p4, .int p5] : List Value).toArray below meth c H locs 0 0 (MQ below (qI G (ty5 cI cJ cZ cO cA) A (wT aT (aS 0) (aH 0) (aE 0) (aX 0) ++ (wS cI cJ aS res.2.1 res.2.2.1 ta se qu im su res.2.2.2.1 sc rc cn so ++ (wH cI cJ cO aH aK res.2.2.2.2.1 res.2.2.2.2.2.1 res.2.2.2.2.2.2 ++ ([] : va_W)))) res.1) ([.ref aT, .int p0, .int p1, .int p2, .int p3, .int p4, .int p5] : List Value).toArray s 0 0 A) (F0 m 71 ls []) := by
        intro pr_15 pu_15 tc_15 hs_15 ol_15 ct_15 v7_15 H locs ls h hP hD hS hl
        unfold f_X4_addThruster_j71 at h
        refine lv_iconst (v := 0) hx hb dX4_addThruster_71 (by decide) ?_
        exact hJ8 pr_15 pu_15 tc_15 hs_15 ol_15 ct_15 v7_15 0 _ _ _ h hP hD hS (lv_sub hl [0, 1, 2, 3, 4, 5, 6, 7] rfl)
      refine lv_if_eq (tgt := 71) hx hb dX4_addThruster_42 (by decide) (fun c7 => ?_) (fun c7 => ?_)
      · replace h := (if_pos c7).symm.trans h
        exact hJ15 pr_5 pu_5 tc_5 hs_5 ol_5 ct_5 t0_5 _ _ _ h hP hD hS (lv_sub hl [1, 2, 3, 4, 5, 6, 7, 0] rfl)
      · replace h := (if_neg c7).symm.trans h
        refine lv_iload hx hb dX4_addThruster_45 (lv_at hl 5 rfl) ?_
        refine lv_iconst (v := 1) hx hb dX4_addThruster_47 (by decide) ?_
        refine lv_bipush (v := 10) hx hb dX4_addThruster_48 (by decide) ?_
        obtain ⟨q16, hq16, h⟩ := bd_s h
        refine kSi (n := 3) (As := [.int p3, .int 1, .int 10]) (rest := []) hx hb hml hown hts (c_X4_isWithin l G cI cJ cZ cO cA e _ p3 1 10 hq16) (tb_S kw185 kw186 kw1 kw187) rfl rfl (by decide +kernel) ⟨Nat.le_of_ble_eq_true rfl, Nat.le_of_ble_eq_true rfl⟩ hK hP hD hS hA hE rfl rfl hl.1 (Nat.le_of_ble_eq_true rfl) ⟨Nat.zero_le _, Nat.zero_le _⟩ dX4_addThruster_50 (fun H locs hP hD hS => ?_)
        refine lv_if_eq (tgt := 71) hx hb dX4_addThruster_53 (by decide) (fun c17 => ?_) (fun c17 => ?_)
        · replace h := (if_pos c17).symm.trans h
          exact hJ15 pr_5 pu_5 tc_5 hs_5 ol_5 ct_5 t0_5 _ _ _ h hP hD hS (lv_sub hl [1, 2, 3, 4, 5, 6, 7, 0] rfl)
        · replace h := (if_neg c17).symm.trans h
          refine lv_iload hx hb dX4_addThruster_56 (lv_at hl 7 rfl) ?_
          refine lv_iconst (v := 1) hx hb dX4_addThruster_58 (by decide) ?_
          refine lv_bipush (v := 10) hx hb dX4_addThruster_59 (by decide) ?_
          obtain ⟨q18, hq18, h⟩ := bd_s h
          refine kSi (n := 3) (As := [.int p5, .int 1, .int 10]) (rest := []) hx hb hml hown hts (c_X4_isWithin l G cI cJ cZ cO cA e _ p5 1 10 hq18) (tb_S kw185 kw186 kw1 kw187) rfl rfl (by decide +kernel) ⟨Nat.le_of_ble_eq_true rfl, Nat.le_of_ble_eq_true rfl⟩ hK hP hD hS hA hE rfl rfl hl.1 (Nat.le_of_ble_eq_true rfl) ⟨Nat.zero_le _, Nat.zero_le _⟩ dX4_addThruster_61 (fun H locs hP hD hS => ?_)
          refine lv_if_eq (tgt := 71) hx hb dX4_addThruster_64 (by decide) (fun c19 => ?_) (fun c19 => ?_)
          · replace h := (if_pos c19).symm.trans h
            exact hJ15 pr_5 pu_5 tc_5 hs_5 ol_5 ct_5 t0_5 _ _ _ h hP hD hS (lv_sub hl [1, 2, 3, 4, 5, 6, 7, 0] rfl)
          · replace h := (if_neg c19).symm.trans h
            refine lv_iconst (v := 1) hx hb dX4_addThruster_67 (by decide) ?_
            refine lv_goto (tgt := 72) hx hb dX4_addThruster_68 (by decide) ?_
            exact hJ8 pr_5 pu_5 tc_5 hs_5 ol_5 ct_5 t0_5 1 _ _ _ h hP hD hS (lv_sub hl [1, 2, 3, 4, 5, 6, 7, 0] rfl)
    have hJ20 : ∀ (pr_20 : Nat → Int32) (pu_20 : Nat → Int32) (tc_20 : Int32) (hs_20 : Nat → SV) (ol_20 : Int32) (ct_20 : Int32) (H : Heap) (locs : List Loc) (ls : Array Slot), f_X4_addThruster_j33 pr_20 pu_20 ta se qu im su tc_20 sc rc cn so hs_20 ol_20 ct_20 p0 p1 p2 p3 p4 p5 = some res → va_P G vwCl (wT aT (aS 0) (aH 0) (aE 0) (aX 0) ++ (wS cI cJ aS pr_20 pu_20 ta se qu im su tc_20 sc rc cn so ++ (wH cI cJ cO aH aK hs_20 ol_20 ct_20 ++ ([] : va_W)))) H → va_D A (wT aT (aS 0) (aH 0) (aE 0) (aX 0) ++ (wS cI cJ aS pr_20 pu_20 ta se qu im su tc_20 sc rc cn so ++ (wH cI cJ cO aH aK hs_20 ol_20 ct_20 ++ ([] : va_W)))) → va_S A s.heap H locs → lv_has ls 9 [(0, .ref aT), (1, .int p0), (2, .int p1), (3, .int p2), (4, .int p3), (5, .int p4), (6, .int p5)] → W p l ev ({ frames := 3, cells := 0, slots := 0, locals := 82 } : Room) s m ([.ref aT, .int p0, .int p1, .int p2, .int p3, .int p4, .int p5] : List Value).toArray below meth c H locs 0 0 (MQ below (qI G (ty5 cI cJ cZ cO cA) A (wT aT (aS 0) (aH 0) (aE 0) (aX 0) ++ (wS cI cJ aS res.2.1 res.2.2.1 ta se qu im su res.2.2.2.1 sc rc cn so ++ (wH cI cJ cO aH aK res.2.2.2.2.1 res.2.2.2.2.2.1 res.2.2.2.2.2.2 ++ ([] : va_W)))) res.1) ([.ref aT, .int p0, .int p1, .int p2, .int p3, .int p4, .int p5] : List Value).toArray s 0 0 A) (F0 m 33 ls []) := by
      intro pr_20 pu_20 tc_20 hs_20 ol_20 ct_20 H locs ls h hP hD hS hl
      unfold f_X4_addThruster_j33 at h
      refine lv_iconst (v := 0) hx hb dX4_addThruster_33 (by decide) ?_
      exact hJ5 pr_20 pu_20 tc_20 hs_20 ol_20 ct_20 0 _ _ _ h hP hD hS (lv_sub hl [0, 1, 2, 3, 4, 5, 6] rfl)
    refine lv_if_eq (tgt := 33) hx hb dX4_addThruster_17 (by decide) (fun c4 => ?_) (fun c4 => ?_)
    · replace h := (if_pos c4).symm.trans h
      exact hJ20 pr pu tc hs ol ct _ _ _ h hP hD hS (lv_sub hl [0, 1, 2, 3, 4, 5, 6] rfl)
    · replace h := (if_neg c4).symm.trans h
      refine lv_iload_n hx hb dX4_addThruster_20 rfl (lv_at hl 2 rfl) ?_
      refine lv_bipush (v := 10) hx hb dX4_addThruster_21 (by decide) ?_
      obtain ⟨q21, hq21, h⟩ := bd_s h
      refine kSi (n := 2) (As := [.int p1, .int 10]) (rest := []) hx hb hml hown hts (c_X4_isAtMost l G cI cJ cZ cO cA e _ p1 10 hq21) (tb_S kw189 kw190 kw1 kw191) rfl rfl (by decide +kernel) ⟨Nat.le_of_ble_eq_true rfl, Nat.le_of_ble_eq_true rfl⟩ hK hP hD hS hA hE rfl rfl hl.1 (Nat.le_of_ble_eq_true rfl) ⟨Nat.zero_le _, Nat.zero_le _⟩ dX4_addThruster_23 (fun H locs hP hD hS => ?_)
      refine lv_if_eq (tgt := 33) hx hb dX4_addThruster_26 (by decide) (fun c22 => ?_) (fun c22 => ?_)
      · replace h := (if_pos c22).symm.trans h
        exact hJ20 pr pu tc hs ol ct _ _ _ h hP hD hS (lv_sub hl [0, 1, 2, 3, 4, 5, 6] rfl)
      · replace h := (if_neg c22).symm.trans h
        refine lv_iconst (v := 1) hx hb dX4_addThruster_29 (by decide) ?_
        refine lv_goto (tgt := 34) hx hb dX4_addThruster_30 (by decide) ?_
        exact hJ5 pr pu tc hs ol ct 1 _ _ _ h hP hD hS (lv_sub hl [0, 1, 2, 3, 4, 5, 6] rfl)
  · replace h := (if_pos c2).symm.trans h
    refine lv_ldc (v := (-2000000001)) hx hb hown (hts _ kw188) dX4_addThruster_8 ?_
    rw [← Option.some.inj h]
    exact kri hx hb hr hlk rfl rfl hP hD hS hK dX4_addThruster_10

/-! X4_isThruster -/
def f_X4_isThruster (tc : Int32) (p0 : Int32) : Option (Int32) :=
  (f_X4_isWithin p0 0 (tc - 1)).bind (fun q1 => gd (zb q1) (some q1))

set_option maxHeartbeats 4000000 in
set_option maxRecDepth 100000 in
theorem c_X4_isThruster (l : Launch) (G : va_G) (cI cJ cZ cO cA : ClassId) (e : Nat × Nat) (aT : Nat) (aS : Nat → Nat) (aH : Nat → Nat) (aE : Nat → Nat) (aX : Nat → Nat) (sz : Nat) (pr : Nat → Int32) (pu : Nat → Int32) (ta : Nat → Int32) (se : Nat → Int32) (qu : Nat → Int32) (im : Nat → Int32) (su : Nat → Int64) (tc : Int32) (sc : Int32) (rc : Int32) (cn : Int32) (so : Int32) (p0 : Int32) {res : Int32} (hf : f_X4_isThruster tc p0 = some res) : MetI l yX4_isThruster cX4_isThruster 2 .boolean ({ frames := 1, cells := 0, slots := 0, locals := 22 } : Room) [.ref aT, .int p0] G (ty5 cI cJ cZ cO cA) e (wT aT (aS 0) (aH 0) (aE 0) (aX 0) ++ (wS cI cJ aS pr pu ta se qu im su tc sc rc cn so ++ ([] : va_W))) (wT aT (aS 0) (aH 0) (aE 0) (aX 0) ++ (wS cI cJ aS pr pu ta se qu im su tc sc rc cn so ++ ([] : va_W))) sz res := by
  refine g_body (QQ := fun A => (qI G (ty5 cI cJ cZ cO cA) A (wT aT (aS 0) (aH 0) (aE 0) (aX 0) ++ (wS cI cJ aS pr pu ta se qu im su tc sc rc cn so ++ ([] : va_W))) res)) (own := RX4) (by decide) rfl (Nat.le_of_ble_eq_true rfl) ?_
  intro p ev s m below meth c A ls hx hb hr hml hown hts hlk hA hP hD hS hK hE hl
  have hl : lv_has ls 2 [(0, .ref aT), (1, .int p0)] := hl
  show W p l ev ({ frames := 1, cells := 0, slots := 0, locals := 22 } : Room) s m ([.ref aT, .int p0] : List Value).toArray below meth c s.heap [] 0 0 (MQ below (qI G (ty5 cI cJ cZ cO cA) A (wT aT (aS 0) (aH 0) (aE 0) (aX 0) ++ (wS cI cJ aS pr pu ta se qu im su tc sc rc cn so ++ ([] : va_W))) res) ([.ref aT, .int p0] : List Value).toArray s 0 0 A) (F0 m 0 ls [])
  have h := hf
  unfold f_X4_isThruster at h
  refine lv_iload_n hx hb dX4_isThruster_0 rfl (lv_at hl 1 rfl) ?_
  refine lv_iconst (v := 0) hx hb dX4_isThruster_1 (by decide) ?_
  refine lv_aload_n hx hb dX4_isThruster_2 rfl (lv_at hl 0 rfl) ?_
  refine va_get (D := G) (ci := 4) (v := .ref (aS 0)) (C := RX4) (T := TX4) (N := 4) hx hb hts uX4 hown hK hP 0 rfl rfl 0 (by decide) (hts _ kw165) (fun _ h9 => h9) rfl dX4_isThruster_3 ?_
  refine va_getN (D := G) (ci := 2) (v := .int tc) (C := RX2) (T := TX2) (N := 12) hx hb hts uX2 hown hK hP 1 rfl rfl 7 (by decide) (hE.nw nk41) (fun _ h9 => h9) rfl dX4_isThruster_6 ?_
  refine lv_iconst (v := 1) hx hb dX4_isThruster_9 (by decide) ?_
  refine lv_isub hx hb dX4_isThruster_10 ?_
  obtain ⟨q1, hq1, h⟩ := bd_s h
  refine kSi (n := 3) (As := [.int p0, .int 0, .int (tc - 1)]) (rest := []) hx hb hml hown hts (c_X4_isWithin l G cI cJ cZ cO cA e _ p0 0 (tc - 1) hq1) (tb_S kw185 kw186 kw1 kw187) rfl rfl (by decide +kernel) ⟨Nat.le_of_ble_eq_true rfl, Nat.le_of_ble_eq_true rfl⟩ hK hP hD hS hA hE rfl rfl hl.1 (Nat.le_of_ble_eq_true rfl) ⟨Nat.zero_le _, Nat.zero_le _⟩ dX4_isThruster_11 (fun H locs hP hD hS => ?_)
  obtain ⟨g2, h⟩ := gd_s h
  rw [← Option.some.inj h]
  exact kri hx hb hr hlk (zb_s g2) rfl hP hD hS hK dX4_isThruster_14

/-! X2_property -/
def f_X2_property (pr : Nat → Int32) (p0 : Int32) (p1 : Int32) : Option (Int32) :=
  gd (ib ((p0 * 7) + p1) 56) (some (pr ((p0 * 7) + p1).toNatClampNeg))

set_option maxHeartbeats 4000000 in
set_option maxRecDepth 100000 in
theorem c_X2_property (l : Launch) (G : va_G) (cI cJ cZ cO cA : ClassId) (e : Nat × Nat) (aS : Nat → Nat) (sz : Nat) (pr : Nat → Int32) (pu : Nat → Int32) (ta : Nat → Int32) (se : Nat → Int32) (qu : Nat → Int32) (im : Nat → Int32) (su : Nat → Int64) (tc : Int32) (sc : Int32) (rc : Int32) (cn : Int32) (so : Int32) (p0 : Int32) (p1 : Int32) {res : Int32} (hf : f_X2_property pr p0 p1 = some res) : MetI l yX2_property cX2_property 3 .int ({ frames := 0, cells := 0, slots := 0, locals := 0 } : Room) [.ref (aS 0), .int p0, .int p1] G (ty5 cI cJ cZ cO cA) e (wS cI cJ aS pr pu ta se qu im su tc sc rc cn so ++ ([] : va_W)) (wS cI cJ aS pr pu ta se qu im su tc sc rc cn so ++ ([] : va_W)) sz res := by
  refine g_body (QQ := fun A => (qI G (ty5 cI cJ cZ cO cA) A (wS cI cJ aS pr pu ta se qu im su tc sc rc cn so ++ ([] : va_W)) res)) (own := RX2) (by decide) rfl (Nat.le_of_ble_eq_true rfl) ?_
  intro p ev s m below meth c A ls hx hb hr hml hown hts hlk hA hP hD hS hK hE hl
  have hl : lv_has ls 3 [(0, .ref (aS 0)), (1, .int p0), (2, .int p1)] := hl
  show W p l ev ({ frames := 0, cells := 0, slots := 0, locals := 0 } : Room) s m ([.ref (aS 0), .int p0, .int p1] : List Value).toArray below meth c s.heap [] 0 0 (MQ below (qI G (ty5 cI cJ cZ cO cA) A (wS cI cJ aS pr pu ta se qu im su tc sc rc cn so ++ ([] : va_W)) res) ([.ref (aS 0), .int p0, .int p1] : List Value).toArray s 0 0 A) (F0 m 0 ls [])
  have h := hf
  unfold f_X2_property at h
  refine lv_aload_n hx hb dX2_property_0 rfl (lv_at hl 0 rfl) ?_
  refine va_get (D := G) (ci := 2) (v := .ref (aS 1)) (C := RX2) (T := TX2) (N := 12) hx hb hts uX2 hown hK hP 0 rfl rfl 0 (by decide) (hts _ kw28) (fun _ h9 => h9) rfl dX2_property_1 ?_
  refine lv_iload_n hx hb dX2_property_4 rfl (lv_at hl 1 rfl) ?_
  refine lv_bipush (v := 7) hx hb dX2_property_5 (by decide) ?_
  refine lv_imul hx hb dX2_property_7 ?_
  refine lv_iload_n hx hb dX2_property_8 rfl (lv_at hl 2 rfl) ?_
  refine lv_iadd hx hb dX2_property_9 ?_
  obtain ⟨g1, h⟩ := gd_s h
  refine va_iald hx hb hK hP 1 0 rfl rfl (ib_in g1) dX2_property_10 ?_
  rw [← Option.some.inj h]
  exact kri hx hb hr hlk rfl rfl hP hD hS hK dX2_property_11

/-! X4_setState -/
def f_X4_setState (pu : Nat → Int32) (ta : Nat → Int32) (se : Nat → Int32) (qu : Nat → Int32) (im : Nat → Int32) (su : Nat → Int64) (tc : Int32) (sc : Int32) (rc : Int32) (cn : Int32) (so : Int32) (pr : Nat → Int32) (hs : Nat → SV) (ol : Int32) (ct : Int32) (p0 : Int32) (p1 : Int32) : Option (Int32 × (Nat → Int32) × (Nat → SV) × Int32 × Int32) :=
  (f_X4_isThruster tc p0).bind (fun q1 => if q1 = 0 then (some ((-2000000001), pr, hs, ol, ct)) else ((f_X4_isWithin p1 0 2).bind (fun q3 => if q3 = 0 then (some ((-2000000002), pr, hs, ol, ct)) else ((f_X0_keep pr pu ta se qu im su tc sc rc cn so hs ol ct).bind (fun q5 => (f_X2_property pr p0 6).bind (fun q6 => (f_X2_setProperty pr p0 6 p1).bind (fun q7 => some (q6, q7, q5.1, q5.2.1, q5.2.2))))))))

set_option maxHeartbeats 4000000 in
set_option maxRecDepth 100000 in
theorem c_X4_setState (l : Launch) (G : va_G) (cI cJ cZ cO cA : ClassId) (e : Nat × Nat) (aT : Nat) (aS : Nat → Nat) (aH : Nat → Nat) (aE : Nat → Nat) (aX : Nat → Nat) (aK : Nat → Nat → Nat) (sz : Nat) (pr : Nat → Int32) (pu : Nat → Int32) (ta : Nat → Int32) (se : Nat → Int32) (qu : Nat → Int32) (im : Nat → Int32) (su : Nat → Int64) (tc : Int32) (sc : Int32) (rc : Int32) (cn : Int32) (so : Int32) (hs : Nat → SV) (ol : Int32) (ct : Int32) (p0 : Int32) (p1 : Int32) {res : Int32 × (Nat → Int32) × (Nat → SV) × Int32 × Int32} (hf : f_X4_setState pu ta se qu im su tc sc rc cn so pr hs ol ct p0 p1 = some res) : MetI l yX4_setState cX4_setState 4 .int ({ frames := 3, cells := 0, slots := 0, locals := 82 } : Room) [.ref aT, .int p0, .int p1] G (ty5 cI cJ cZ cO cA) e (wT aT (aS 0) (aH 0) (aE 0) (aX 0) ++ (wS cI cJ aS pr pu ta se qu im su tc sc rc cn so ++ (wH cI cJ cO aH aK hs ol ct ++ ([] : va_W)))) (wT aT (aS 0) (aH 0) (aE 0) (aX 0) ++ (wS cI cJ aS res.2.1 pu ta se qu im su tc sc rc cn so ++ (wH cI cJ cO aH aK res.2.2.1 res.2.2.2.1 res.2.2.2.2 ++ ([] : va_W)))) sz res.1 := by
  refine g_body (QQ := fun A => (qI G (ty5 cI cJ cZ cO cA) A (wT aT (aS 0) (aH 0) (aE 0) (aX 0) ++ (wS cI cJ aS res.2.1 pu ta se qu im su tc sc rc cn so ++ (wH cI cJ cO aH aK res.2.2.1 res.2.2.2.1 res.2.2.2.2 ++ ([] : va_W)))) res.1)) (own := RX4) (by decide) rfl (Nat.le_of_ble_eq_true rfl) ?_
  intro p ev s m below meth c A ls hx hb hr hml hown hts hlk hA hP hD hS hK hE hl
  have hl : lv_has ls 4 [(0, .ref aT), (1, .int p0), (2, .int p1)] := hl
  show W p l ev ({ frames := 3, cells := 0, slots := 0, locals := 82 } : Room) s m ([.ref aT, .int p0, .int p1] : List Value).toArray below meth c s.heap [] 0 0 (MQ below (qI G (ty5 cI cJ cZ cO cA) A (wT aT (aS 0) (aH 0) (aE 0) (aX 0) ++ (wS cI cJ aS res.2.1 pu ta se qu im su tc sc rc cn so ++ (wH cI cJ cO aH aK res.2.2.1 res.2.2.2.1 res.2.2.2.2 ++ ([] : va_W)))) res.1) ([.ref aT, .int p0, .int p1] : List Value).toArray s 0 0 A) (F0 m 0 ls [])
  have h := hf
  unfold f_X4_setState at h
  refine lv_aload_n hx hb dX4_setState_0 rfl (lv_at hl 0 rfl) ?_
  refine lv_iload_n hx hb dX4_setState_1 rfl (lv_at hl 1 rfl) ?_
  obtain ⟨q1, hq1, h⟩ := bd_s h
  refine kVi (n := 1) (C := RX4) (ws' := wT aT (aS 0) (aH 0) (aE 0) (aX 0) ++ (wS cI cJ aS pr pu ta se qu im su tc sc rc cn so ++ (wH cI cJ cO aH aK hs ol ct ++ ([] : va_W)))) (As := [.int p0]) (rest := []) hx hb hml hown hts (c_X4_isThruster l G cI cJ cZ cO cA e aT aS aH aE aX _ pr pu ta se qu im su tc sc rc cn so p0 hq1) (tb_V kw221 kw223 kv0 kw1 kw224) rfl rfl (by decide +kernel) ⟨Nat.le_of_ble_eq_true rfl, Nat.le_of_ble_eq_true rfl⟩ hK hP hD hS hA hE 0 rfl rfl [0, 1, 2, 3, 4, 5, 6, 7, 8] [9, 10, 11, 12, 13, 14, 15, 16, 17, 18, 19, 20, 21, 22, 23, 24, 25, 26, 27, 28, 29, 30, 31, 32, 33, 34, 35, 36, 37, 38, 39, 40, 41, 42, 43, 44, 45, 46, 47, 48, 49, 50] rfl rfl rfl 51 ⟨rfl, rfl⟩ (by decide +kernel) (by decide +kernel) rfl rfl hl.1 (Nat.le_of_ble_eq_true rfl) ⟨Nat.zero_le _, Nat.zero_le _⟩ dX4_setState_2 (fun H locs hP hD hS => ?_)
  refine lv_if_ne (tgt := 11) hx hb dX4_setState_5 (by decide) (fun c2 => ?_) (fun c2 => ?_)
  · replace h := (if_neg c2).symm.trans h
    refine lv_iload_n hx hb dX4_setState_11 rfl (lv_at hl 2 rfl) ?_
    refine lv_iconst (v := 0) hx hb dX4_setState_12 (by decide) ?_
    refine lv_iconst (v := 2) hx hb dX4_setState_13 (by decide) ?_
    obtain ⟨q3, hq3, h⟩ := bd_s h
    refine kSi (n := 3) (As := [.int p1, .int 0, .int 2]) (rest := []) hx hb hml hown hts (c_X4_isWithin l G cI cJ cZ cO cA e _ p1 0 2 hq3) (tb_S kw185 kw186 kw1 kw187) rfl rfl (by decide +kernel) ⟨Nat.le_of_ble_eq_true rfl, Nat.le_of_ble_eq_true rfl⟩ hK hP hD hS hA hE rfl rfl hl.1 (Nat.le_of_ble_eq_true rfl) ⟨Nat.zero_le _, Nat.zero_le _⟩ dX4_setState_14 (fun H locs hP hD hS => ?_)
    refine lv_if_ne (tgt := 23) hx hb dX4_setState_17 (by decide) (fun c4 => ?_) (fun c4 => ?_)
    · replace h := (if_neg c4).symm.trans h
      refine lv_aload_n hx hb dX4_setState_23 rfl (lv_at hl 0 rfl) ?_
      refine va_get (D := G) (ci := 4) (v := .ref (aH 0)) (C := RX4) (T := TX4) (N := 4) hx hb hts uX4 hown hK hP 0 rfl rfl 1 (by decide) (hts _ kw166) (fun _ h9 => h9) rfl dX4_setState_24 ?_
      refine lv_aload_n hx hb dX4_setState_27 rfl (lv_at hl 0 rfl) ?_
      refine va_get (D := G) (ci := 4) (v := .ref (aS 0)) (C := RX4) (T := TX4) (N := 4) hx hb hts uX4 hown hK hP 0 rfl rfl 0 (by decide) (hts _ kw165) (fun _ h9 => h9) rfl dX4_setState_28 ?_
      obtain ⟨q5, hq5, h⟩ := bd_s h
      refine kVv (n := 1) (C := RX0) (ws' := wT aT (aS 0) (aH 0) (aE 0) (aX 0) ++ (wS cI cJ aS pr pu ta se qu im su tc sc rc cn so ++ (wH cI cJ cO aH aK q5.1 q5.2.1 q5.2.2 ++ ([] : va_W)))) (As := [.ref (aS 0)]) (rest := []) hx hb hml hown hts (c_X0_keep l G cI cJ cZ cO cA e aS aH aK _ pr pu ta se qu im su tc sc rc cn so hs ol ct hq5) (tb_V kw194 kw195 kw196 kw4 kw197) rfl rfl (by decide +kernel) ⟨Nat.le_of_ble_eq_true rfl, Nat.le_of_ble_eq_true rfl⟩ hK hP hD hS hA hE 9 rfl rfl [1, 2, 3, 4, 5, 6, 7, 8, 9, 10, 11, 12, 13, 14, 15, 16, 17, 18, 19, 20, 21, 22, 23, 24, 25, 26, 27, 28, 29, 30, 31, 32, 33, 34, 35, 36, 37, 38, 39, 40, 41, 42, 43, 44, 45, 46, 47, 48, 49, 50] [0] rfl rfl rfl 51 ⟨rfl, rfl⟩ (by decide +kernel) (by decide +kernel) rfl rfl hl.1 (Nat.le_of_ble_eq_true rfl) ⟨Nat.zero_le _, Nat.zero_le _⟩ dX4_setState_31 (fun H locs hP hD hS => ?_)
      refine lv_aload_n hx hb dX4_setState_34 rfl (lv_at hl 0 rfl) ?_
      refine va_get (D := G) (ci := 4) (v := .ref (aS 0)) (C := RX4) (T := TX4) (N := 4) hx hb hts uX4 hown hK hP 0 rfl rfl 0 (by decide) (hts _ kw165) (fun _ h9 => h9) rfl dX4_setState_35 ?_
      refine lv_iload_n hx hb dX4_setState_38 rfl (lv_at hl 1 rfl) ?_
      refine lv_bipush (v := 6) hx hb dX4_setState_39 (by decide) ?_
      obtain ⟨q6, hq6, h⟩ := bd_s h
      refine kVi (n := 2) (C := RX2) (ws' := wT aT (aS 0) (aH 0) (aE 0) (aX 0) ++ (wS cI cJ aS pr pu ta se qu im su tc sc rc cn so ++ (wH cI cJ cO aH aK q5.1 q5.2.1 q5.2.2 ++ ([] : va_W)))) (As := [.int p0, .int 6]) (rest := []) hx hb hml hown hts (c_X2_property l G cI cJ cZ cO cA e aS _ pr pu ta se qu im su tc sc rc cn so p0 6 hq6) (tb_V kw338 kw238 kw239 kw2 kw240) rfl rfl (by decide +kernel) ⟨Nat.le_of_ble_eq_true rfl, Nat.le_of_ble_eq_true rfl⟩ hK hP hD hS hA hE 1 rfl rfl [1, 2, 3, 4, 5, 6, 7, 8] [0, 9, 10, 11, 12, 13, 14, 15, 16, 17, 18, 19, 20, 21, 22, 23, 24, 25, 26, 27, 28, 29, 30, 31, 32, 33, 34, 35, 36, 37, 38, 39, 40, 41, 42, 43, 44, 45, 46, 47, 48, 49, 50] rfl rfl rfl 51 ⟨rfl, rfl⟩ (by decide +kernel) (by decide +kernel) rfl rfl hl.1 (Nat.le_of_ble_eq_true rfl) ⟨Nat.zero_le _, Nat.zero_le _⟩ dX4_setState_41 (fun H locs hP hD hS => ?_)
      refine lv_istore_n (lv' := [(3, .int q6), (0, .ref aT), (1, .int p0), (2, .int p1)]) hx hb dX4_setState_44 rfl hl (by decide) rfl (fun ls hl => ?_)
      refine lv_aload_n hx hb dX4_setState_45 rfl (lv_at hl 1 rfl) ?_
      refine va_get (D := G) (ci := 4) (v := .ref (aS 0)) (C := RX4) (T := TX4) (N := 4) hx hb hts uX4 hown hK hP 0 rfl rfl 0 (by decide) (hts _ kw165) (fun _ h9 => h9) rfl dX4_setState_46 ?_
      refine lv_iload_n hx hb dX4_setState_49 rfl (lv_at hl 2 rfl) ?_
      refine lv_bipush (v := 6) hx hb dX4_setState_50 (by decide) ?_
      refine lv_iload_n hx hb dX4_setState_52 rfl (lv_at hl 3 rfl) ?_
      obtain ⟨q7, hq7, h⟩ := bd_s h
      refine kVv (n := 3) (C := RX2) (ws' := wT aT (aS 0) (aH 0) (aE 0) (aX 0) ++ (wS cI cJ aS q7 pu ta se qu im su tc sc rc cn so ++ (wH cI cJ cO aH aK q5.1 q5.2.1 q5.2.2 ++ ([] : va_W)))) (As := [.int p0, .int 6, .int p1]) (rest := []) hx hb hml hown hts (c_X2_setProperty l G cI cJ cZ cO cA e aS _ pr pu ta se qu im su tc sc rc cn so p0 6 p1 hq7) (tb_V kw547 kw210 kw211 kw2 kw212) rfl rfl (by decide +kernel) ⟨Nat.le_of_ble_eq_true rfl, Nat.le_of_ble_eq_true rfl⟩ hK hP hD hS hA hE 1 rfl rfl [1, 2, 3, 4, 5, 6, 7, 8] [0, 9, 10, 11, 12, 13, 14, 15, 16, 17, 18, 19, 20, 21, 22, 23, 24, 25, 26, 27, 28, 29, 30, 31, 32, 33, 34, 35, 36, 37, 38, 39, 40, 41, 42, 43, 44, 45, 46, 47, 48, 49, 50] rfl rfl rfl 51 ⟨rfl, rfl⟩ (by decide +kernel) (by decide +kernel) rfl rfl hl.1 (Nat.le_of_ble_eq_true rfl) ⟨Nat.zero_le _, Nat.zero_le _⟩ dX4_setState_53 (fun H locs hP hD hS => ?_)
      refine lv_iload_n hx hb dX4_setState_56 rfl (lv_at hl 0 rfl) ?_
      rw [← Option.some.inj h]
      exact kri hx hb hr hlk rfl rfl hP hD hS hK dX4_setState_57
    · replace h := (if_pos c4).symm.trans h
      refine lv_ldc (v := (-2000000002)) hx hb hown (hts _ kw192) dX4_setState_20 ?_
      rw [← Option.some.inj h]
      exact kri hx hb hr hlk rfl rfl hP hD hS hK dX4_setState_22
  · replace h := (if_pos c2).symm.trans h
    refine lv_ldc (v := (-2000000001)) hx hb hown (hts _ kw188) dX4_setState_8 ?_
    rw [← Option.some.inj h]
    exact kri hx hb hr hlk rfl rfl hP hD hS hK dX4_setState_10

/-! X4_thrusters -/
def f_X4_thrusters (tc : Int32) : Option (Int32) :=
  some tc

set_option maxHeartbeats 4000000 in
set_option maxRecDepth 100000 in
theorem c_X4_thrusters (l : Launch) (G : va_G) (cI cJ cZ cO cA : ClassId) (e : Nat × Nat) (aT : Nat) (aS : Nat → Nat) (aH : Nat → Nat) (aE : Nat → Nat) (aX : Nat → Nat) (sz : Nat) (pr : Nat → Int32) (pu : Nat → Int32) (ta : Nat → Int32) (se : Nat → Int32) (qu : Nat → Int32) (im : Nat → Int32) (su : Nat → Int64) (tc : Int32) (sc : Int32) (rc : Int32) (cn : Int32) (so : Int32) {res : Int32} (hf : f_X4_thrusters tc = some res) : MetI l yX4_thrusters cX4_thrusters 1 .int ({ frames := 0, cells := 0, slots := 0, locals := 0 } : Room) [.ref aT] G (ty5 cI cJ cZ cO cA) e (wT aT (aS 0) (aH 0) (aE 0) (aX 0) ++ (wS cI cJ aS pr pu ta se qu im su tc sc rc cn so ++ ([] : va_W))) (wT aT (aS 0) (aH 0) (aE 0) (aX 0) ++ (wS cI cJ aS pr pu ta se qu im su tc sc rc cn so ++ ([] : va_W))) sz res := by
  refine g_body (QQ := fun A => (qI G (ty5 cI cJ cZ cO cA) A (wT aT (aS 0) (aH 0) (aE 0) (aX 0) ++ (wS cI cJ aS pr pu ta se qu im su tc sc rc cn so ++ ([] : va_W))) res)) (own := RX4) (by decide) rfl (Nat.le_of_ble_eq_true rfl) ?_
  intro p ev s m below meth c A ls hx hb hr hml hown hts hlk hA hP hD hS hK hE hl
  have hl : lv_has ls 1 [(0, .ref aT)] := hl
  show W p l ev ({ frames := 0, cells := 0, slots := 0, locals := 0 } : Room) s m ([.ref aT] : List Value).toArray below meth c s.heap [] 0 0 (MQ below (qI G (ty5 cI cJ cZ cO cA) A (wT aT (aS 0) (aH 0) (aE 0) (aX 0) ++ (wS cI cJ aS pr pu ta se qu im su tc sc rc cn so ++ ([] : va_W))) res) ([.ref aT] : List Value).toArray s 0 0 A) (F0 m 0 ls [])
  have h := hf
  unfold f_X4_thrusters at h
  refine lv_aload_n hx hb dX4_thrusters_0 rfl (lv_at hl 0 rfl) ?_
  refine va_get (D := G) (ci := 4) (v := .ref (aS 0)) (C := RX4) (T := TX4) (N := 4) hx hb hts uX4 hown hK hP 0 rfl rfl 0 (by decide) (hts _ kw165) (fun _ h9 => h9) rfl dX4_thrusters_1 ?_
  refine va_getN (D := G) (ci := 2) (v := .int tc) (C := RX2) (T := TX2) (N := 12) hx hb hts uX2 hown hK hP 1 rfl rfl 7 (by decide) (hE.nw nk41) (fun _ h9 => h9) rfl dX4_thrusters_4 ?_
  rw [← Option.some.inj h]
  exact kri hx hb hr hlk rfl rfl hP hD hS hK dX4_thrusters_7

/-! X2_fuelOf -/
def f_X2_fuelOf (pr : Nat → Int32) (ta : Nat → Int32) (p0 : Int32) : Option (Int32) :=
  (f_X2_property pr p0 4).bind (fun q1 => gd (ib q1 2) (some (ta q1.toNatClampNeg)))

set_option maxHeartbeats 4000000 in
set_option maxRecDepth 100000 in
theorem c_X2_fuelOf (l : Launch) (G : va_G) (cI cJ cZ cO cA : ClassId) (e : Nat × Nat) (aS : Nat → Nat) (sz : Nat) (pr : Nat → Int32) (pu : Nat → Int32) (ta : Nat → Int32) (se : Nat → Int32) (qu : Nat → Int32) (im : Nat → Int32) (su : Nat → Int64) (tc : Int32) (sc : Int32) (rc : Int32) (cn : Int32) (so : Int32) (p0 : Int32) {res : Int32} (hf : f_X2_fuelOf pr ta p0 = some res) : MetI l yX2_fuelOf cX2_fuelOf 2 .int ({ frames := 1, cells := 0, slots := 0, locals := 22 } : Room) [.ref (aS 0), .int p0] G (ty5 cI cJ cZ cO cA) e (wS cI cJ aS pr pu ta se qu im su tc sc rc cn so ++ ([] : va_W)) (wS cI cJ aS pr pu ta se qu im su tc sc rc cn so ++ ([] : va_W)) sz res := by
  refine g_body (QQ := fun A => (qI G (ty5 cI cJ cZ cO cA) A (wS cI cJ aS pr pu ta se qu im su tc sc rc cn so ++ ([] : va_W)) res)) (own := RX2) (by decide) rfl (Nat.le_of_ble_eq_true rfl) ?_
  intro p ev s m below meth c A ls hx hb hr hml hown hts hlk hA hP hD hS hK hE hl
  have hl : lv_has ls 2 [(0, .ref (aS 0)), (1, .int p0)] := hl
  show W p l ev ({ frames := 1, cells := 0, slots := 0, locals := 22 } : Room) s m ([.ref (aS 0), .int p0] : List Value).toArray below meth c s.heap [] 0 0 (MQ below (qI G (ty5 cI cJ cZ cO cA) A (wS cI cJ aS pr pu ta se qu im su tc sc rc cn so ++ ([] : va_W)) res) ([.ref (aS 0), .int p0] : List Value).toArray s 0 0 A) (F0 m 0 ls [])
  have h := hf
  unfold f_X2_fuelOf at h
  refine lv_aload_n hx hb dX2_fuelOf_0 rfl (lv_at hl 0 rfl) ?_
  refine va_get (D := G) (ci := 2) (v := .ref (aS 3)) (C := RX2) (T := TX2) (N := 12) hx hb hts uX2 hown hK hP 0 rfl rfl 2 (by decide) (hts _ kw31) (fun _ h9 => h9) rfl dX2_fuelOf_1 ?_
  refine lv_aload_n hx hb dX2_fuelOf_4 rfl (lv_at hl 0 rfl) ?_
  refine lv_iload_n hx hb dX2_fuelOf_5 rfl (lv_at hl 1 rfl) ?_
  refine lv_iconst (v := 4) hx hb dX2_fuelOf_6 (by decide) ?_
  obtain ⟨q1, hq1, h⟩ := bd_s h
  refine kVi (n := 2) (C := RX2) (ws' := wS cI cJ aS pr pu ta se qu im su tc sc rc cn so ++ ([] : va_W)) (As := [.int p0, .int 4]) (rest := [.ref (aS 3)]) hx hb hml hown hts (c_X2_property l G cI cJ cZ cO cA e aS _ pr pu ta se qu im su tc sc rc cn so p0 4 hq1) (tb_V kw237 kw238 kw239 kw2 kw240) rfl rfl (by decide +kernel) ⟨Nat.le_of_ble_eq_true rfl, Nat.le_of_ble_eq_true rfl⟩ hK hP hD hS hA hE 0 rfl rfl [0, 1, 2, 3, 4, 5, 6, 7] [] rfl rfl rfl 8 ⟨rfl, rfl⟩ (by decide +kernel) (by decide +kernel) rfl rfl hl.1 (Nat.le_of_ble_eq_true rfl) ⟨Nat.zero_le _, Nat.zero_le _⟩ dX2_fuelOf_7 (fun H locs hP hD hS => ?_)
  obtain ⟨g2, h⟩ := gd_s h
  refine va_iald hx hb hK hP 3 0 rfl rfl (ib_in g2) dX2_fuelOf_10 ?_
  rw [← Option.some.inj h]
  exact kri hx hb hr hlk rfl rfl hP hD hS hK dX2_fuelOf_11

/-! X2_isUsable -/
def f_X2_isUsable (pr : Nat → Int32) (ta : Nat → Int32) (p0 : Int32) : Option (Int32) :=
  (f_X2_property pr p0 6).bind (fun q1 => if q1 = 0 then ((f_X2_fuelOf pr ta p0).bind (fun q3 => if q3 < 600 then (some 0) else (some 1))) else (some 0))

set_option maxHeartbeats 4000000 in
set_option maxRecDepth 100000 in
theorem c_X2_isUsable (l : Launch) (G : va_G) (cI cJ cZ cO cA : ClassId) (e : Nat × Nat) (aS : Nat → Nat) (sz : Nat) (pr : Nat → Int32) (pu : Nat → Int32) (ta : Nat → Int32) (se : Nat → Int32) (qu : Nat → Int32) (im : Nat → Int32) (su : Nat → Int64) (tc : Int32) (sc : Int32) (rc : Int32) (cn : Int32) (so : Int32) (p0 : Int32) {res : Int32} (hf : f_X2_isUsable pr ta p0 = some res) : MetI l yX2_isUsable cX2_isUsable 2 .boolean ({ frames := 2, cells := 0, slots := 0, locals := 43 } : Room) [.ref (aS 0), .int p0] G (ty5 cI cJ cZ cO cA) e (wS cI cJ aS pr pu ta se qu im su tc sc rc cn so ++ ([] : va_W)) (wS cI cJ aS pr pu ta se qu im su tc sc rc cn so ++ ([] : va_W)) sz res := by
  refine g_body (QQ := fun A => (qI G (ty5 cI cJ cZ cO cA) A (wS cI cJ aS pr pu ta se qu im su tc sc rc cn so ++ ([] : va_W)) res)) (own := RX2) (by decide) rfl (Nat.le_of_ble_eq_true rfl) ?_
  intro p ev s m below meth c A ls hx hb hr hml hown hts hlk hA hP hD hS hK hE hl
  have hl : lv_has ls 2 [(0, .ref (aS 0)), (1, .int p0)] := hl
  show W p l ev ({ frames := 2, cells := 0, slots := 0, locals := 43 } : Room) s m ([.ref (aS 0), .int p0] : List Value).toArray below meth c s.heap [] 0 0 (MQ below (qI G (ty5 cI cJ cZ cO cA) A (wS cI cJ aS pr pu ta se qu im su tc sc rc cn so ++ ([] : va_W)) res) ([.ref (aS 0), .int p0] : List Value).toArray s 0 0 A) (F0 m 0 ls [])
  have h := hf
  unfold f_X2_isUsable at h
  refine lv_aload_n hx hb dX2_isUsable_0 rfl (lv_at hl 0 rfl) ?_
  refine lv_iload_n hx hb dX2_isUsable_1 rfl (lv_at hl 1 rfl) ?_
  refine lv_bipush (v := 6) hx hb dX2_isUsable_2 (by decide) ?_
  obtain ⟨q1, hq1, h⟩ := bd_s h
  refine kVi (n := 2) (C := RX2) (ws' := wS cI cJ aS pr pu ta se qu im su tc sc rc cn so ++ ([] : va_W)) (As := [.int p0, .int 6]) (rest := []) hx hb hml hown hts (c_X2_property l G cI cJ cZ cO cA e aS _ pr pu ta se qu im su tc sc rc cn so p0 6 hq1) (tb_V kw237 kw238 kw239 kw2 kw240) rfl rfl (by decide +kernel) ⟨Nat.le_of_ble_eq_true rfl, Nat.le_of_ble_eq_true rfl⟩ hK hP hD hS hA hE 0 rfl rfl [0, 1, 2, 3, 4, 5, 6, 7] [] rfl rfl rfl 8 ⟨rfl, rfl⟩ (by decide +kernel) (by decide +kernel) rfl rfl hl.1 (Nat.le_of_ble_eq_true rfl) ⟨Nat.zero_le _, Nat.zero_le _⟩ dX2_isUsable_4 (fun H locs hP hD hS => ?_)
  refine lv_if_ne (tgt := 25) hx hb dX2_isUsable_7 (by decide) (fun c2 => ?_) (fun c2 => ?_)
  · replace h := (if_neg c2).symm.trans h
    refine lv_iconst (v := 0) hx hb dX2_isUsable_25 (by decide) ?_
    rw [← Option.some.inj h]
    exact kri hx hb hr hlk rfl rfl hP hD hS hK dX2_isUsable_26
  · replace h := (if_pos c2).symm.trans h
    refine lv_aload_n hx hb dX2_isUsable_10 rfl (lv_at hl 0 rfl) ?_
    refine lv_iload_n hx hb dX2_isUsable_11 rfl (lv_at hl 1 rfl) ?_
    obtain ⟨q3, hq3, h⟩ := bd_s h
    refine kVi (n := 1) (C := RX2) (ws' := wS cI cJ aS pr pu ta se qu im su tc sc rc cn so ++ ([] : va_W)) (As := [.int p0]) (rest := []) hx hb hml hown hts (c_X2_fuelOf l G cI cJ cZ cO cA e aS _ pr pu ta se qu im su tc sc rc cn so p0 hq3) (tb_V kw241 kw242 kw243 kw2 kw244) rfl rfl (by decide +kernel) ⟨Nat.le_of_ble_eq_true rfl, Nat.le_of_ble_eq_true rfl⟩ hK hP hD hS hA hE 0 rfl rfl [0, 1, 2, 3, 4, 5, 6, 7] [] rfl rfl rfl 8 ⟨rfl, rfl⟩ (by decide +kernel) (by decide +kernel) rfl rfl hl.1 (Nat.le_of_ble_eq_true rfl) ⟨Nat.zero_le _, Nat.zero_le _⟩ dX2_isUsable_12 (fun H locs hP hD hS => ?_)
    refine lv_sipush (v := 600) hx hb dX2_isUsable_15 (by decide) ?_
    refine lv_icmp_lt (tgt := 25) hx hb dX2_isUsable_18 (by decide) (fun c4 => ?_) (fun c4 => ?_)
    · replace h := (if_pos c4).symm.trans h
      refine lv_iconst (v := 0) hx hb dX2_isUsable_25 (by decide) ?_
      rw [← Option.some.inj h]
      exact kri hx hb hr hlk rfl rfl hP hD hS hK dX2_isUsable_26
    · replace h := (if_neg c4).symm.trans h
      refine lv_iconst (v := 1) hx hb dX2_isUsable_21 (by decide) ?_
      refine lv_goto (tgt := 26) hx hb dX2_isUsable_22 (by decide) ?_
      rw [← Option.some.inj h]
      exact kri hx hb hr hlk rfl rfl hP hD hS hK dX2_isUsable_26

/-! X2_isRunning -/
def f_X2_isRunning (pr : Nat → Int32) (ta : Nat → Int32) (p0 : Int32) : Option (Int32) :=
  (f_X2_property pr p0 6).bind (fun q1 => if q1 = 2 then ((f_X2_fuelOf pr ta p0).bind (fun q3 => (f_X2_property pr p0 3).bind (fun q4 => if q3 < (20 * q4) then (some 0) else (some 1)))) else (some 0))

set_option maxHeartbeats 4000000 in
set_option maxRecDepth 100000 in
theorem c_X2_isRunning (l : Launch) (G : va_G) (cI cJ cZ cO cA : ClassId) (e : Nat × Nat) (aS : Nat → Nat) (sz : Nat) (pr : Nat → Int32) (pu : Nat → Int32) (ta : Nat → Int32) (se : Nat → Int32) (qu : Nat → Int32) (im : Nat → Int32) (su : Nat → Int64) (tc : Int32) (sc : Int32) (rc : Int32) (cn : Int32) (so : Int32) (p0 : Int32) {res : Int32} (hf : f_X2_isRunning pr ta p0 = some res) : MetI l yX2_isRunning cX2_isRunning 2 .boolean ({ frames := 2, cells := 0, slots := 0, locals := 43 } : Room) [.ref (aS 0), .int p0] G (ty5 cI cJ cZ cO cA) e (wS cI cJ aS pr pu ta se qu im su tc sc rc cn so ++ ([] : va_W)) (wS cI cJ aS pr pu ta se qu im su tc sc rc cn so ++ ([] : va_W)) sz res := by
  refine g_body (QQ := fun A => (qI G (ty5 cI cJ cZ cO cA) A (wS cI cJ aS pr pu ta se qu im su tc sc rc cn so ++ ([] : va_W)) res)) (own := RX2) (by decide) rfl (Nat.le_of_ble_eq_true rfl) ?_
  intro p ev s m below meth c A ls hx hb hr hml hown hts hlk hA hP hD hS hK hE hl
  have hl : lv_has ls 2 [(0, .ref (aS 0)), (1, .int p0)] := hl
  show W p l ev ({ frames := 2, cells := 0, slots := 0, locals := 43 } : Room) s m ([.ref (aS 0), .int p0] : List Value).toArray below meth c s.heap [] 0 0 (MQ below (qI G (ty5 cI cJ cZ cO cA) A (wS cI cJ aS pr pu ta se qu im su tc sc rc cn so ++ ([] : va_W)) res) ([.ref (aS 0), .int p0] : List Value).toArray s 0 0 A) (F0 m 0 ls [])
  have h := hf
  unfold f_X2_isRunning at h
  refine lv_aload_n hx hb dX2_isRunning_0 rfl (lv_at hl 0 rfl) ?_
  refine lv_iload_n hx hb dX2_isRunning_1 rfl (lv_at hl 1 rfl) ?_
  refine lv_bipush (v := 6) hx hb dX2_isRunning_2 (by decide) ?_
  obtain ⟨q1, hq1, h⟩ := bd_s h
  refine kVi (n := 2) (C := RX2) (ws' := wS cI cJ aS pr pu ta se qu im su tc sc rc cn so ++ ([] : va_W)) (As := [.int p0, .int 6]) (rest := []) hx hb hml hown hts (c_X2_property l G cI cJ cZ cO cA e aS _ pr pu ta se qu im su tc sc rc cn so p0 6 hq1) (tb_V kw237 kw238 kw239 kw2 kw240) rfl rfl (by decide +kernel) ⟨Nat.le_of_ble_eq_true rfl, Nat.le_of_ble_eq_true rfl⟩ hK hP hD hS hA hE 0 rfl rfl [0, 1, 2, 3, 4, 5, 6, 7] [] rfl rfl rfl 8 ⟨rfl, rfl⟩ (by decide +kernel) (by decide +kernel) rfl rfl hl.1 (Nat.le_of_ble_eq_true rfl) ⟨Nat.zero_le _, Nat.zero_le _⟩ dX2_isRunning_4 (fun H locs hP hD hS => ?_)
  refine lv_iconst (v := 2) hx hb dX2_isRunning_7 (by decide) ?_
  refine lv_icmp_ne (tgt := 32) hx hb dX2_isRunning_8 (by decide) (fun c2 => ?_) (fun c2 => ?_)
  · replace h := (if_neg c2).symm.trans h
    refine lv_iconst (v := 0) hx hb dX2_isRunning_32 (by decide) ?_
    rw [← Option.some.inj h]
    exact kri hx hb hr hlk rfl rfl hP hD hS hK dX2_isRunning_33
  · replace h := (if_pos c2).symm.trans h
    refine lv_aload_n hx hb dX2_isRunning_11 rfl (lv_at hl 0 rfl) ?_
    refine lv_iload_n hx hb dX2_isRunning_12 rfl (lv_at hl 1 rfl) ?_
    obtain ⟨q3, hq3, h⟩ := bd_s h
    refine kVi (n := 1) (C := RX2) (ws' := wS cI cJ aS pr pu ta se qu im su tc sc rc cn so ++ ([] : va_W)) (As := [.int p0]) (rest := []) hx hb hml hown hts (c_X2_fuelOf l G cI cJ cZ cO cA e aS _ pr pu ta se qu im su tc sc rc cn so p0 hq3) (tb_V kw241 kw242 kw243 kw2 kw244) rfl rfl (by decide +kernel) ⟨Nat.le_of_ble_eq_true rfl, Nat.le_of_ble_eq_true rfl⟩ hK hP hD hS hA hE 0 rfl rfl [0, 1, 2, 3, 4, 5, 6, 7] [] rfl rfl rfl 8 ⟨rfl, rfl⟩ (by decide +kernel) (by decide +kernel) rfl rfl hl.1 (Nat.le_of_ble_eq_true rfl) ⟨Nat.zero_le _, Nat.zero_le _⟩ dX2_isRunning_13 (fun H locs hP hD hS => ?_)
    refine lv_bipush (v := 20) hx hb dX2_isRunning_16 (by decide) ?_
    refine lv_aload_n hx hb dX2_isRunning_18 rfl (lv_at hl 0 rfl) ?_
    refine lv_iload_n hx hb dX2_isRunning_19 rfl (lv_at hl 1 rfl) ?_
    refine lv_iconst (v := 3) hx hb dX2_isRunning_20 (by decide) ?_
    obtain ⟨q4, hq4, h⟩ := bd_s h
    refine kVi (n := 2) (C := RX2) (ws' := wS cI cJ aS pr pu ta se qu im su tc sc rc cn so ++ ([] : va_W)) (As := [.int p0, .int 3]) (rest := [.int 20, .int q3]) hx hb hml hown hts (c_X2_property l G cI cJ cZ cO cA e aS _ pr pu ta se qu im su tc sc rc cn so p0 3 hq4) (tb_V kw237 kw238 kw239 kw2 kw240) rfl rfl (by decide +kernel) ⟨Nat.le_of_ble_eq_true rfl, Nat.le_of_ble_eq_true rfl⟩ hK hP hD hS hA hE 0 rfl rfl [0, 1, 2, 3, 4, 5, 6, 7] [] rfl rfl rfl 8 ⟨rfl, rfl⟩ (by decide +kernel) (by decide +kernel) rfl rfl hl.1 (Nat.le_of_ble_eq_true rfl) ⟨Nat.zero_le _, Nat.zero_le _⟩ dX2_isRunning_21 (fun H locs hP hD hS => ?_)
    refine lv_imul hx hb dX2_isRunning_24 ?_
    refine lv_icmp_lt (tgt := 32) hx hb dX2_isRunning_25 (by decide) (fun c5 => ?_) (fun c5 => ?_)
    · replace h := (if_pos c5).symm.trans h
      refine lv_iconst (v := 0) hx hb dX2_isRunning_32 (by decide) ?_
      rw [← Option.some.inj h]
      exact kri hx hb hr hlk rfl rfl hP hD hS hK dX2_isRunning_33
    · replace h := (if_neg c5).symm.trans h
      refine lv_iconst (v := 1) hx hb dX2_isRunning_28 (by decide) ?_
      refine lv_goto (tgt := 33) hx hb dX2_isRunning_29 (by decide) ?_
      rw [← Option.some.inj h]
      exact kri hx hb hr hlk rfl rfl hP hD hS hK dX2_isRunning_33

/-! X4_thruster -/
def f_X4_thruster (pr : Nat → Int32) (ta : Nat → Int32) (tc : Int32) (p0 : Int32) (p1 : Int32) : Option (Int32) :=
  (f_X4_isThruster tc p0).bind (fun q1 => if q1 = 0 then (some (-2000000001)) else ((f_X4_isWithin p1 0 8).bind (fun q3 => if q3 = 0 then (some (-2000000002)) else (if p1 = 7 then ((f_X2_isUsable pr ta p0).bind (fun q10 => if q10 = 0 then (some 0) else (some 1))) else (if p1 = 8 then ((f_X2_isRunning pr ta p0).bind (fun q8 => if q8 = 0 then (some 0) else (some 1))) else ((f_X2_property pr p0 p1).bind (fun q7 => some q7)))))))

set_option maxHeartbeats 4000000 in
set_option maxRecDepth 100000 in
theorem c_X4_thruster (l : Launch) (G : va_G) (cI cJ cZ cO cA : ClassId) (e : Nat × Nat) (aT : Nat) (aS : Nat → Nat) (aH : Nat → Nat) (aE : Nat → Nat) (aX : Nat → Nat) (sz : Nat) (pr : Nat → Int32) (pu : Nat → Int32) (ta : Nat → Int32) (se : Nat → Int32) (qu : Nat → Int32) (im : Nat → Int32) (su : Nat → Int64) (tc : Int32) (sc : Int32) (rc : Int32) (cn : Int32) (so : Int32) (p0 : Int32) (p1 : Int32) {res : Int32} (hf : f_X4_thruster pr ta tc p0 p1 = some res) : MetI l yX4_thruster cX4_thruster 3 .int ({ frames := 3, cells := 0, slots := 0, locals := 64 } : Room) [.ref aT, .int p0, .int p1] G (ty5 cI cJ cZ cO cA) e (wT aT (aS 0) (aH 0) (aE 0) (aX 0) ++ (wS cI cJ aS pr pu ta se qu im su tc sc rc cn so ++ ([] : va_W))) (wT aT (aS 0) (aH 0) (aE 0) (aX 0) ++ (wS cI cJ aS pr pu ta se qu im su tc sc rc cn so ++ ([] : va_W))) sz res := by
  refine g_body (QQ := fun A => (qI G (ty5 cI cJ cZ cO cA) A (wT aT (aS 0) (aH 0) (aE 0) (aX 0) ++ (wS cI cJ aS pr pu ta se qu im su tc sc rc cn so ++ ([] : va_W))) res)) (own := RX4) (by decide) rfl (Nat.le_of_ble_eq_true rfl) ?_
  intro p ev s m below meth c A ls hx hb hr hml hown hts hlk hA hP hD hS hK hE hl
  have hl : lv_has ls 3 [(0, .ref aT), (1, .int p0), (2, .int p1)] := hl
  show W p l ev ({ frames := 3, cells := 0, slots := 0, locals := 64 } : Room) s m ([.ref aT, .int p0, .int p1] : List Value).toArray below meth c s.heap [] 0 0 (MQ below (qI G (ty5 cI cJ cZ cO cA) A (wT aT (aS 0) (aH 0) (aE 0) (aX 0) ++ (wS cI cJ aS pr pu ta se qu im su tc sc rc cn so ++ ([] : va_W))) res) ([.ref aT, .int p0, .int p1] : List Value).toArray s 0 0 A) (F0 m 0 ls [])
  have h := hf
  unfold f_X4_thruster at h
  refine lv_aload_n hx hb dX4_thruster_0 rfl (lv_at hl 0 rfl) ?_
  refine lv_iload_n hx hb dX4_thruster_1 rfl (lv_at hl 1 rfl) ?_
  obtain ⟨q1, hq1, h⟩ := bd_s h
  refine kVi (n := 1) (C := RX4) (ws' := wT aT (aS 0) (aH 0) (aE 0) (aX 0) ++ (wS cI cJ aS pr pu ta se qu im su tc sc rc cn so ++ ([] : va_W))) (As := [.int p0]) (rest := []) hx hb hml hown hts (c_X4_isThruster l G cI cJ cZ cO cA e aT aS aH aE aX _ pr pu ta se qu im su tc sc rc cn so p0 hq1) (tb_V kw221 kw223 kv0 kw1 kw224) rfl rfl (by decide +kernel) ⟨Nat.le_of_ble_eq_true rfl, Nat.le_of_ble_eq_true rfl⟩ hK hP hD hS hA hE 0 rfl rfl [0, 1, 2, 3, 4, 5, 6, 7, 8] [] rfl rfl rfl 9 ⟨rfl, rfl⟩ (by decide +kernel) (by decide +kernel) rfl rfl hl.1 (Nat.le_of_ble_eq_true rfl) ⟨Nat.zero_le _, Nat.zero_le _⟩ dX4_thruster_2 (fun H locs hP hD hS => ?_)
  refine lv_if_ne (tgt := 11) hx hb dX4_thruster_5 (by decide) (fun c2 => ?_) (fun c2 => ?_)
  · replace h := (if_neg c2).symm.trans h
    refine lv_iload_n hx hb dX4_thruster_11 rfl (lv_at hl 2 rfl) ?_
    refine lv_iconst (v := 0) hx hb dX4_thruster_12 (by decide) ?_
    refine lv_bipush (v := 8) hx hb dX4_thruster_13 (by decide) ?_
    obtain ⟨q3, hq3, h⟩ := bd_s h
    refine kSi (n := 3) (As := [.int p1, .int 0, .int 8]) (rest := []) hx hb hml hown hts (c_X4_isWithin l G cI cJ cZ cO cA e _ p1 0 8 hq3) (tb_S kw185 kw186 kw1 kw187) rfl rfl (by decide +kernel) ⟨Nat.le_of_ble_eq_true rfl, Nat.le_of_ble_eq_true rfl⟩ hK hP hD hS hA hE rfl rfl hl.1 (Nat.le_of_ble_eq_true rfl) ⟨Nat.zero_le _, Nat.zero_le _⟩ dX4_thruster_15 (fun H locs hP hD hS => ?_)
    refine lv_if_ne (tgt := 24) hx hb dX4_thruster_18 (by decide) (fun c4 => ?_) (fun c4 => ?_)
    · replace h := (if_neg c4).symm.trans h
      refine lv_iload_n hx hb dX4_thruster_24 rfl (lv_at hl 2 rfl) ?_
      refine lv_bipush (v := 7) hx hb dX4_thruster_25 (by decide) ?_
      refine lv_icmp_ne (tgt := 47) hx hb dX4_thruster_27 (by decide) (fun c5 => ?_) (fun c5 => ?_)
      · replace h := (if_neg c5).symm.trans h
        refine lv_iload_n hx hb dX4_thruster_47 rfl (lv_at hl 2 rfl) ?_
        refine lv_bipush (v := 8) hx hb dX4_thruster_48 (by decide) ?_
        refine lv_icmp_ne (tgt := 70) hx hb dX4_thruster_50 (by decide) (fun c6 => ?_) (fun c6 => ?_)
        · replace h := (if_neg c6).symm.trans h
          refine lv_aload_n hx hb dX4_thruster_70 rfl (lv_at hl 0 rfl) ?_
          refine va_get (D := G) (ci := 4) (v := .ref (aS 0)) (C := RX4) (T := TX4) (N := 4) hx hb hts uX4 hown hK hP 0 rfl rfl 0 (by decide) (hts _ kw165) (fun _ h9 => h9) rfl dX4_thruster_71 ?_
          refine lv_iload_n hx hb dX4_thruster_74 rfl (lv_at hl 1 rfl) ?_
          refine lv_iload_n hx hb dX4_thruster_75 rfl (lv_at hl 2 rfl) ?_
          obtain ⟨q7, hq7, h⟩ := bd_s h
          refine kVi (n := 2) (C := RX2) (ws' := wT aT (aS 0) (aH 0) (aE 0) (aX 0) ++ (wS cI cJ aS pr pu ta se qu im su tc sc rc cn so ++ ([] : va_W))) (As := [.int p0, .int p1]) (rest := []) hx hb hml hown hts (c_X2_property l G cI cJ cZ cO cA e aS _ pr pu ta se qu im su tc sc rc cn so p0 p1 hq7) (tb_V kw338 kw238 kw239 kw2 kw240) rfl rfl (by decide +kernel) ⟨Nat.le_of_ble_eq_true rfl, Nat.le_of_ble_eq_true rfl⟩ hK hP hD hS hA hE 1 rfl rfl [1, 2, 3, 4, 5, 6, 7, 8] [0] rfl rfl rfl 9 ⟨rfl, rfl⟩ (by decide +kernel) (by decide +kernel) rfl rfl hl.1 (Nat.le_of_ble_eq_true rfl) ⟨Nat.zero_le _, Nat.zero_le _⟩ dX4_thruster_76 (fun H locs hP hD hS => ?_)
          rw [← Option.some.inj h]
          exact kri hx hb hr hlk rfl rfl hP hD hS hK dX4_thruster_79
        · replace h := (if_pos c6).symm.trans h
          refine lv_aload_n hx hb dX4_thruster_53 rfl (lv_at hl 0 rfl) ?_
          refine va_get (D := G) (ci := 4) (v := .ref (aS 0)) (C := RX4) (T := TX4) (N := 4) hx hb hts uX4 hown hK hP 0 rfl rfl 0 (by decide) (hts _ kw165) (fun _ h9 => h9) rfl dX4_thruster_54 ?_
          refine lv_iload_n hx hb dX4_thruster_57 rfl (lv_at hl 1 rfl) ?_
          obtain ⟨q8, hq8, h⟩ := bd_s h
          refine kVi (n := 1) (C := RX2) (ws' := wT aT (aS 0) (aH 0) (aE 0) (aX 0) ++ (wS cI cJ aS pr pu ta se qu im su tc sc rc cn so ++ ([] : va_W))) (As := [.int p0]) (rest := []) hx hb hml hown hts (c_X2_isRunning l G cI cJ cZ cO cA e aS _ pr pu ta se qu im su tc sc rc cn so p0 hq8) (tb_V kw499 kw234 kw235 kw2 kw236) rfl rfl (by decide +kernel) ⟨Nat.le_of_ble_eq_true rfl, Nat.le_of_ble_eq_true rfl⟩ hK hP hD hS hA hE 1 rfl rfl [1, 2, 3, 4, 5, 6, 7, 8] [0] rfl rfl rfl 9 ⟨rfl, rfl⟩ (by decide +kernel) (by decide +kernel) rfl rfl hl.1 (Nat.le_of_ble_eq_true rfl) ⟨Nat.zero_le _, Nat.zero_le _⟩ dX4_thruster_58 (fun H locs hP hD hS => ?_)
          refine lv_if_eq (tgt := 68) hx hb dX4_thruster_61 (by decide) (fun c9 => ?_) (fun c9 => ?_)
          · replace h := (if_pos c9).symm.trans h
            refine lv_iconst (v := 0) hx hb dX4_thruster_68 (by decide) ?_
            rw [← Option.some.inj h]
            exact kri hx hb hr hlk rfl rfl hP hD hS hK dX4_thruster_69
          · replace h := (if_neg c9).symm.trans h
            refine lv_iconst (v := 1) hx hb dX4_thruster_64 (by decide) ?_
            refine lv_goto (tgt := 69) hx hb dX4_thruster_65 (by decide) ?_
            rw [← Option.some.inj h]
            exact kri hx hb hr hlk rfl rfl hP hD hS hK dX4_thruster_69
      · replace h := (if_pos c5).symm.trans h
        refine lv_aload_n hx hb dX4_thruster_30 rfl (lv_at hl 0 rfl) ?_
        refine va_get (D := G) (ci := 4) (v := .ref (aS 0)) (C := RX4) (T := TX4) (N := 4) hx hb hts uX4 hown hK hP 0 rfl rfl 0 (by decide) (hts _ kw165) (fun _ h9 => h9) rfl dX4_thruster_31 ?_
        refine lv_iload_n hx hb dX4_thruster_34 rfl (lv_at hl 1 rfl) ?_
        obtain ⟨q10, hq10, h⟩ := bd_s h
        refine kVi (n := 1) (C := RX2) (ws' := wT aT (aS 0) (aH 0) (aE 0) (aX 0) ++ (wS cI cJ aS pr pu ta se qu im su tc sc rc cn so ++ ([] : va_W))) (As := [.int p0]) (rest := []) hx hb hml hown hts (c_X2_isUsable l G cI cJ cZ cO cA e aS _ pr pu ta se qu im su tc sc rc cn so p0 hq10) (tb_V kw498 kw313 kw314 kw2 kw315) rfl rfl (by decide +kernel) ⟨Nat.le_of_ble_eq_true rfl, Nat.le_of_ble_eq_true rfl⟩ hK hP hD hS hA hE 1 rfl rfl [1, 2, 3, 4, 5, 6, 7, 8] [0] rfl rfl rfl 9 ⟨rfl, rfl⟩ (by decide +kernel) (by decide +kernel) rfl rfl hl.1 (Nat.le_of_ble_eq_true rfl) ⟨Nat.zero_le _, Nat.zero_le _⟩ dX4_thruster_35 (fun H locs hP hD hS => ?_)
        refine lv_if_eq (tgt := 45) hx hb dX4_thruster_38 (by decide) (fun c11 => ?_) (fun c11 => ?_)
        · replace h := (if_pos c11).symm.trans h
          refine lv_iconst (v := 0) hx hb dX4_thruster_45 (by decide) ?_
          rw [← Option.some.inj h]
          exact kri hx hb hr hlk rfl rfl hP hD hS hK dX4_thruster_46
        · replace h := (if_neg c11).symm.trans h
          refine lv_iconst (v := 1) hx hb dX4_thruster_41 (by decide) ?_
          refine lv_goto (tgt := 46) hx hb dX4_thruster_42 (by decide) ?_
          rw [← Option.some.inj h]
          exact kri hx hb hr hlk rfl rfl hP hD hS hK dX4_thruster_46
    · replace h := (if_pos c4).symm.trans h
      refine lv_ldc (v := (-2000000002)) hx hb hown (hts _ kw192) dX4_thruster_21 ?_
      rw [← Option.some.inj h]
      exact kri hx hb hr hlk rfl rfl hP hD hS hK dX4_thruster_23
  · replace h := (if_pos c2).symm.trans h
    refine lv_ldc (v := (-2000000001)) hx hb hown (hts _ kw188) dX4_thruster_8 ?_
    rw [← Option.some.inj h]
    exact kri hx hb hr hlk rfl rfl hP hD hS hK dX4_thruster_10

/-! X4_isPart -/
def f_X4_isPart (p0 : Int32) : Option (Int32) :=
  (f_X4_isWithin p0 0 2).bind (fun q1 => gd (zb q1) (some q1))

set_option maxHeartbeats 4000000 in
set_option maxRecDepth 100000 in
theorem c_X4_isPart (l : Launch) (G : va_G) (cI cJ cZ cO cA : ClassId) (e : Nat × Nat) (sz : Nat) (p0 : Int32) {res : Int32} (hf : f_X4_isPart p0 = some res) : MetI l yX4_isPart cX4_isPart 1 .boolean ({ frames := 1, cells := 0, slots := 0, locals := 22 } : Room) [.int p0] G (ty5 cI cJ cZ cO cA) e (([] : va_W)) (([] : va_W)) sz res := by
  refine g_body (QQ := fun A => (qI G (ty5 cI cJ cZ cO cA) A (([] : va_W)) res)) (own := RX4) (by decide) rfl (Nat.le_of_ble_eq_true rfl) ?_
  intro p ev s m below meth c A ls hx hb hr hml hown hts hlk hA hP hD hS hK hE hl
  have hl : lv_has ls 1 [(0, .int p0)] := hl
  show W p l ev ({ frames := 1, cells := 0, slots := 0, locals := 22 } : Room) s m ([.int p0] : List Value).toArray below meth c s.heap [] 0 0 (MQ below (qI G (ty5 cI cJ cZ cO cA) A (([] : va_W)) res) ([.int p0] : List Value).toArray s 0 0 A) (F0 m 0 ls [])
  have h := hf
  unfold f_X4_isPart at h
  refine lv_iload_n hx hb dX4_isPart_0 rfl (lv_at hl 0 rfl) ?_
  refine lv_iconst (v := 0) hx hb dX4_isPart_1 (by decide) ?_
  refine lv_iconst (v := 2) hx hb dX4_isPart_2 (by decide) ?_
  obtain ⟨q1, hq1, h⟩ := bd_s h
  refine kSi (n := 3) (As := [.int p0, .int 0, .int 2]) (rest := []) hx hb hml hown hts (c_X4_isWithin l G cI cJ cZ cO cA e _ p0 0 2 hq1) (tb_S kw185 kw186 kw1 kw187) rfl rfl (by decide +kernel) ⟨Nat.le_of_ble_eq_true rfl, Nat.le_of_ble_eq_true rfl⟩ hK hP hD hS hA hE rfl rfl hl.1 (Nat.le_of_ble_eq_true rfl) ⟨Nat.zero_le _, Nat.zero_le _⟩ dX4_isPart_3 (fun H locs hP hD hS => ?_)
  obtain ⟨g2, h⟩ := gd_s h
  rw [← Option.some.inj h]
  exact kri hx hb hr hlk (zb_s g2) rfl hP hD hS hK dX4_isPart_6

/-! X2_unitPart -/
def f_X2_unitPart (pr : Nat → Int32) (p0 : Int32) (p1 : Int32) : Option (Int32) :=
  (f_X2_property pr p0 3).bind (fun q1 => (f_X2_property pr p0 2).bind (fun q2 => gd (ib q2 4) ((f_X2_property pr p0 2).bind (fun q4 => gd (ib q4 4) (if p1 = 0 then (some (q1 * (dX q2.toNatClampNeg))) else (if p1 = 1 then (some (q1 * (dY q4.toNatClampNeg))) else ((f_X2_property pr p0 0).bind (fun q8 => (f_X2_property pr p0 1).bind (fun q9 => some (q1 * ((q8 * (dY q4.toNatClampNeg)) - (q9 * (dX q2.toNatClampNeg)))))))))))))

set_option maxHeartbeats 4000000 in
set_option maxRecDepth 100000 in
theorem c_X2_unitPart (l : Launch) (G : va_G) (cI cJ cZ cO cA : ClassId) (e : Nat × Nat) (aS : Nat → Nat) (sz : Nat) (pr : Nat → Int32) (pu : Nat → Int32) (ta : Nat → Int32) (se : Nat → Int32) (qu : Nat → Int32) (im : Nat → Int32) (su : Nat → Int64) (tc : Int32) (sc : Int32) (rc : Int32) (cn : Int32) (so : Int32) (p0 : Int32) (p1 : Int32) {res : Int32} (hf : f_X2_unitPart pr p0 p1 = some res) : MetI l yX2_unitPart cX2_unitPart 6 .int ({ frames := 1, cells := 0, slots := 0, locals := 22 } : Room) [.ref (aS 0), .int p0, .int p1] G (ty5 cI cJ cZ cO cA) e (wS cI cJ aS pr pu ta se qu im su tc sc rc cn so ++ ([] : va_W)) (wS cI cJ aS pr pu ta se qu im su tc sc rc cn so ++ ([] : va_W)) sz res := by
  refine g_body (QQ := fun A => (qI G (ty5 cI cJ cZ cO cA) A (wS cI cJ aS pr pu ta se qu im su tc sc rc cn so ++ ([] : va_W)) res)) (own := RX2) (by decide) rfl (Nat.le_of_ble_eq_true rfl) ?_
  intro p ev s m below meth c A ls hx hb hr hml hown hts hlk hA hP hD hS hK hE hl
  have hl : lv_has ls 6 [(0, .ref (aS 0)), (1, .int p0), (2, .int p1)] := hl
  show W p l ev ({ frames := 1, cells := 0, slots := 0, locals := 22 } : Room) s m ([.ref (aS 0), .int p0, .int p1] : List Value).toArray below meth c s.heap [] 0 0 (MQ below (qI G (ty5 cI cJ cZ cO cA) A (wS cI cJ aS pr pu ta se qu im su tc sc rc cn so ++ ([] : va_W)) res) ([.ref (aS 0), .int p0, .int p1] : List Value).toArray s 0 0 A) (F0 m 0 ls [])
  have h := hf
  unfold f_X2_unitPart at h
  refine lv_aload_n hx hb dX2_unitPart_0 rfl (lv_at hl 0 rfl) ?_
  refine lv_iload_n hx hb dX2_unitPart_1 rfl (lv_at hl 1 rfl) ?_
  refine lv_iconst (v := 3) hx hb dX2_unitPart_2 (by decide) ?_
  obtain ⟨q1, hq1, h⟩ := bd_s h
  refine kVi (n := 2) (C := RX2) (ws' := wS cI cJ aS pr pu ta se qu im su tc sc rc cn so ++ ([] : va_W)) (As := [.int p0, .int 3]) (rest := []) hx hb hml hown hts (c_X2_property l G cI cJ cZ cO cA e aS _ pr pu ta se qu im su tc sc rc cn so p0 3 hq1) (tb_V kw237 kw238 kw239 kw2 kw240) rfl rfl (by decide +kernel) ⟨Nat.le_of_ble_eq_true rfl, Nat.le_of_ble_eq_true rfl⟩ hK hP hD hS hA hE 0 rfl rfl [0, 1, 2, 3, 4, 5, 6, 7] [] rfl rfl rfl 8 ⟨rfl, rfl⟩ (by decide +kernel) (by decide +kernel) rfl rfl hl.1 (Nat.le_of_ble_eq_true rfl) ⟨Nat.zero_le _, Nat.zero_le _⟩ dX2_unitPart_3 (fun H locs hP hD hS => ?_)
  refine lv_istore_n (lv' := [(3, .int q1), (0, .ref (aS 0)), (1, .int p0), (2, .int p1)]) hx hb dX2_unitPart_6 rfl hl (by decide) rfl (fun ls hl => ?_)
  refine va_getsN hx hb hE.2.1 hS hown (hE.nw nk253) (fun _ h9 => h9) dX2_unitPart_7 ?_
  refine lv_aload_n hx hb dX2_unitPart_10 rfl (lv_at hl 1 rfl) ?_
  refine lv_iload_n hx hb dX2_unitPart_11 rfl (lv_at hl 2 rfl) ?_
  refine lv_iconst (v := 2) hx hb dX2_unitPart_12 (by decide) ?_
  obtain ⟨q2, hq2, h⟩ := bd_s h
  refine kVi (n := 2) (C := RX2) (ws' := wS cI cJ aS pr pu ta se qu im su tc sc rc cn so ++ ([] : va_W)) (As := [.int p0, .int 2]) (rest := [.ref e.1]) hx hb hml hown hts (c_X2_property l G cI cJ cZ cO cA e aS _ pr pu ta se qu im su tc sc rc cn so p0 2 hq2) (tb_V kw237 kw238 kw239 kw2 kw240) rfl rfl (by decide +kernel) ⟨Nat.le_of_ble_eq_true rfl, Nat.le_of_ble_eq_true rfl⟩ hK hP hD hS hA hE 0 rfl rfl [0, 1, 2, 3, 4, 5, 6, 7] [] rfl rfl rfl 8 ⟨rfl, rfl⟩ (by decide +kernel) (by decide +kernel) rfl rfl hl.1 (Nat.le_of_ble_eq_true rfl) ⟨Nat.zero_le _, Nat.zero_le _⟩ dX2_unitPart_13 (fun H locs hP hD hS => ?_)
  obtain ⟨g3, h⟩ := gd_s h
  refine va_ti (v := .int (dX q2.toNatClampNeg)) hx hb hE.2.2.2.1 hS (ib_in g3) rfl dX2_unitPart_16 ?_
  refine lv_istore (lv' := [(4, .int (dX q2.toNatClampNeg)), (3, .int q1), (0, .ref (aS 0)), (1, .int p0), (2, .int p1)]) hx hb dX2_unitPart_17 hl (by decide) rfl (fun ls hl => ?_)
  refine va_getsN hx hb hE.2.2.1 hS hown (hE.nw nk255) (fun _ h9 => h9) dX2_unitPart_19 ?_
  refine lv_aload_n hx hb dX2_unitPart_22 rfl (lv_at hl 2 rfl) ?_
  refine lv_iload_n hx hb dX2_unitPart_23 rfl (lv_at hl 3 rfl) ?_
  refine lv_iconst (v := 2) hx hb dX2_unitPart_24 (by decide) ?_
  obtain ⟨q4, hq4, h⟩ := bd_s h
  refine kVi (n := 2) (C := RX2) (ws' := wS cI cJ aS pr pu ta se qu im su tc sc rc cn so ++ ([] : va_W)) (As := [.int p0, .int 2]) (rest := [.ref e.2]) hx hb hml hown hts (c_X2_property l G cI cJ cZ cO cA e aS _ pr pu ta se qu im su tc sc rc cn so p0 2 hq4) (tb_V kw237 kw238 kw239 kw2 kw240) rfl rfl (by decide +kernel) ⟨Nat.le_of_ble_eq_true rfl, Nat.le_of_ble_eq_true rfl⟩ hK hP hD hS hA hE 0 rfl rfl [0, 1, 2, 3, 4, 5, 6, 7] [] rfl rfl rfl 8 ⟨rfl, rfl⟩ (by decide +kernel) (by decide +kernel) rfl rfl hl.1 (Nat.le_of_ble_eq_true rfl) ⟨Nat.zero_le _, Nat.zero_le _⟩ dX2_unitPart_25 (fun H locs hP hD hS => ?_)
  obtain ⟨g5, h⟩ := gd_s h
  refine va_ti (v := .int (dY q4.toNatClampNeg)) hx hb hE.2.2.2.2 hS (ib_in g5) rfl dX2_unitPart_28 ?_
  refine lv_istore (lv' := [(5, .int (dY q4.toNatClampNeg)), (4, .int (dX q2.toNatClampNeg)), (3, .int q1), (0, .ref (aS 0)), (1, .int p0), (2, .int p1)]) hx hb dX2_unitPart_29 hl (by decide) rfl (fun ls hl => ?_)
  refine lv_iload_n hx hb dX2_unitPart_31 rfl (lv_at hl 5 rfl) ?_
  refine lv_if_ne (tgt := 40) hx hb dX2_unitPart_32 (by decide) (fun c6 => ?_) (fun c6 => ?_)
  · replace h := (if_neg c6).symm.trans h
    refine lv_iload_n hx hb dX2_unitPart_40 rfl (lv_at hl 5 rfl) ?_
    refine lv_iconst (v := 1) hx hb dX2_unitPart_41 (by decide) ?_
    refine lv_icmp_ne (tgt := 50) hx hb dX2_unitPart_42 (by decide) (fun c7 => ?_) (fun c7 => ?_)
    · replace h := (if_neg c7).symm.trans h
      refine lv_iload_n hx hb dX2_unitPart_50 rfl (lv_at hl 2 rfl) ?_
      refine lv_aload_n hx hb dX2_unitPart_51 rfl (lv_at hl 3 rfl) ?_
      refine lv_iload_n hx hb dX2_unitPart_52 rfl (lv_at hl 4 rfl) ?_
      refine lv_iconst (v := 0) hx hb dX2_unitPart_53 (by decide) ?_
      obtain ⟨q8, hq8, h⟩ := bd_s h
      refine kVi (n := 2) (C := RX2) (ws' := wS cI cJ aS pr pu ta se qu im su tc sc rc cn so ++ ([] : va_W)) (As := [.int p0, .int 0]) (rest := [.int q1]) hx hb hml hown hts (c_X2_property l G cI cJ cZ cO cA e aS _ pr pu ta se qu im su tc sc rc cn so p0 0 hq8) (tb_V kw237 kw238 kw239 kw2 kw240) rfl rfl (by decide +kernel) ⟨Nat.le_of_ble_eq_true rfl, Nat.le_of_ble_eq_true rfl⟩ hK hP hD hS hA hE 0 rfl rfl [0, 1, 2, 3, 4, 5, 6, 7] [] rfl rfl rfl 8 ⟨rfl, rfl⟩ (by decide +kernel) (by decide +kernel) rfl rfl hl.1 (Nat.le_of_ble_eq_true rfl) ⟨Nat.zero_le _, Nat.zero_le _⟩ dX2_unitPart_54 (fun H locs hP hD hS => ?_)
      refine lv_iload hx hb dX2_unitPart_57 (lv_at hl 0 rfl) ?_
      refine lv_imul hx hb dX2_unitPart_59 ?_
      refine lv_aload_n hx hb dX2_unitPart_60 rfl (lv_at hl 3 rfl) ?_
      refine lv_iload_n hx hb dX2_unitPart_61 rfl (lv_at hl 4 rfl) ?_
      refine lv_iconst (v := 1) hx hb dX2_unitPart_62 (by decide) ?_
      obtain ⟨q9, hq9, h⟩ := bd_s h
      refine kVi (n := 2) (C := RX2) (ws' := wS cI cJ aS pr pu ta se qu im su tc sc rc cn so ++ ([] : va_W)) (As := [.int p0, .int 1]) (rest := [.int (q8 * (dY q4.toNatClampNeg)), .int q1]) hx hb hml hown hts (c_X2_property l G cI cJ cZ cO cA e aS _ pr pu ta se qu im su tc sc rc cn so p0 1 hq9) (tb_V kw237 kw238 kw239 kw2 kw240) rfl rfl (by decide +kernel) ⟨Nat.le_of_ble_eq_true rfl, Nat.le_of_ble_eq_true rfl⟩ hK hP hD hS hA hE 0 rfl rfl [0, 1, 2, 3, 4, 5, 6, 7] [] rfl rfl rfl 8 ⟨rfl, rfl⟩ (by decide +kernel) (by decide +kernel) rfl rfl hl.1 (Nat.le_of_ble_eq_true rfl) ⟨Nat.zero_le _, Nat.zero_le _⟩ dX2_unitPart_63 (fun H locs hP hD hS => ?_)
      refine lv_iload hx hb dX2_unitPart_66 (lv_at hl 1 rfl) ?_
      refine lv_imul hx hb dX2_unitPart_68 ?_
      refine lv_isub hx hb dX2_unitPart_69 ?_
      refine lv_imul hx hb dX2_unitPart_70 ?_
      rw [← Option.some.inj h]
      exact kri hx hb hr hlk rfl rfl hP hD hS hK dX2_unitPart_71
    · replace h := (if_pos c7).symm.trans h
      refine lv_iload_n hx hb dX2_unitPart_45 rfl (lv_at hl 2 rfl) ?_
      refine lv_iload hx hb dX2_unitPart_46 (lv_at hl 0 rfl) ?_
      refine lv_imul hx hb dX2_unitPart_48 ?_
      rw [← Option.some.inj h]
      exact kri hx hb hr hlk rfl rfl hP hD hS hK dX2_unitPart_49
  · replace h := (if_pos c6).symm.trans h
    refine lv_iload_n hx hb dX2_unitPart_35 rfl (lv_at hl 2 rfl) ?_
    refine lv_iload hx hb dX2_unitPart_36 (lv_at hl 1 rfl) ?_
    refine lv_imul hx hb dX2_unitPart_38 ?_
    rw [← Option.some.inj h]
    exact kri hx hb hr hlk rfl rfl hP hD hS hK dX2_unitPart_39

/-! X4_unit -/
def f_X4_unit_j15 : Option (Int32) :=
  some (-2000000001)
def f_X4_unit (pr : Nat → Int32) (tc : Int32) (p0 : Int32) (p1 : Int32) : Option (Int32) :=
  (f_X4_isThruster tc p0).bind (fun q1 => if q1 = 0 then (f_X4_unit_j15) else ((f_X4_isPart p1).bind (fun q4 => if q4 = 0 then (f_X4_unit_j15) else ((f_X2_unitPart pr p0 p1).bind (fun q6 => some q6)))))

set_option maxHeartbeats 4000000 in
set_option maxRecDepth 100000 in
theorem c_X4_unit (l : Launch) (G : va_G) (cI cJ cZ cO cA : ClassId) (e : Nat × Nat) (aT : Nat) (aS : Nat → Nat) (aH : Nat → Nat) (aE : Nat → Nat) (aX : Nat → Nat) (sz : Nat) (pr : Nat → Int32) (pu : Nat → Int32) (ta : Nat → Int32) (se : Nat → Int32) (qu : Nat → Int32) (im : Nat → Int32) (su : Nat → Int64) (tc : Int32) (sc : Int32) (rc : Int32) (cn : Int32) (so : Int32) (p0 : Int32) (p1 : Int32) {res : Int32} (hf : f_X4_unit pr tc p0 p1 = some res) : MetI l yX4_unit cX4_unit 3 .int ({ frames := 2, cells := 0, slots := 0, locals := 47 } : Room) [.ref aT, .int p0, .int p1] G (ty5 cI cJ cZ cO cA) e (wT aT (aS 0) (aH 0) (aE 0) (aX 0) ++ (wS cI cJ aS pr pu ta se qu im su tc sc rc cn so ++ ([] : va_W))) (wT aT (aS 0) (aH 0) (aE 0) (aX 0) ++ (wS cI cJ aS pr pu ta se qu im su tc sc rc cn so ++ ([] : va_W))) sz res := by
  refine g_body (QQ := fun A => (qI G (ty5 cI cJ cZ cO cA) A (wT aT (aS 0) (aH 0) (aE 0) (aX 0) ++ (wS cI cJ aS pr pu ta se qu im su tc sc rc cn so ++ ([] : va_W))) res)) (own := RX4) (by decide) rfl (Nat.le_of_ble_eq_true rfl) ?_
  intro p ev s m below meth c A ls hx hb hr hml hown hts hlk hA hP hD hS hK hE hl
  have hl : lv_has ls 3 [(0, .ref aT), (1, .int p0), (2, .int p1)] := hl
  show W p l ev ({ frames := 2, cells := 0, slots := 0, locals := 47 } : Room) s m ([.ref aT, .int p0, .int p1] : List Value).toArray below meth c s.heap [] 0 0 (MQ below (qI G (ty5 cI cJ cZ cO cA) A (wT aT (aS 0) (aH 0) (aE 0) (aX 0) ++ (wS cI cJ aS pr pu ta se qu im su tc sc rc cn so ++ ([] : va_W))) res) ([.ref aT, .int p0, .int p1] : List Value).toArray s 0 0 A) (F0 m 0 ls [])
  have h := hf
  unfold f_X4_unit at h
  refine lv_aload_n hx hb dX4_unit_0 rfl (lv_at hl 0 rfl) ?_
  refine lv_iload_n hx hb dX4_unit_1 rfl (lv_at hl 1 rfl) ?_
  obtain ⟨q1, hq1, h⟩ := bd_s h
  refine kVi (n := 1) (C := RX4) (ws' := wT aT (aS 0) (aH 0) (aE 0) (aX 0) ++ (wS cI cJ aS pr pu ta se qu im su tc sc rc cn so ++ ([] : va_W))) (As := [.int p0]) (rest := []) hx hb hml hown hts (c_X4_isThruster l G cI cJ cZ cO cA e aT aS aH aE aX _ pr pu ta se qu im su tc sc rc cn so p0 hq1) (tb_V kw221 kw223 kv0 kw1 kw224) rfl rfl (by decide +kernel) ⟨Nat.le_of_ble_eq_true rfl, Nat.le_of_ble_eq_true rfl⟩ hK hP hD hS hA hE 0 rfl rfl [0, 1, 2, 3, 4, 5, 6, 7, 8] [] rfl rfl rfl 9 ⟨rfl, rfl⟩ (by decide +kernel) (by decide +kernel) rfl rfl hl.1 (Nat.le_of_ble_eq_true rfl) ⟨Nat.zero_le _, Nat.zero_le _⟩ dX4_unit_2 (fun H locs hP hD hS => ?_)
  have hJ3 : ∀ (H : Heap) (locs : List Loc) (ls : Array Slot), f_X4_unit_j15 = some res → va_P G vwCl (wT aT (aS 0) (aH 0) (aE 0) (aX 0) ++ (wS cI cJ aS pr pu ta se qu im su tc sc rc cn so ++ ([] : va_W))) H → va_D A (wT aT (aS 0) (aH 0) (aE 0) (aX 0) ++ (wS cI cJ aS pr pu ta se qu im su tc sc rc cn so ++ ([] : va_W))) → va_S A s.heap H locs → lv_has ls 3 [] → W p l ev ({ frames := 2, cells := 0, slots := 0, locals := 47 } : Room) s m ([.ref aT, .int p0, .int p1] : List Value).toArray below meth c H locs 0 0 (MQ below (qI G (ty5 cI cJ cZ cO cA) A (wT aT (aS 0) (aH 0) (aE 0) (aX 0) ++ (wS cI cJ aS pr pu ta se qu im su tc sc rc cn so ++ ([] : va_W))) res) ([.ref aT, .int p0, .int p1] : List Value).toArray s 0 0 A) (F0 m 15 ls []) := by
    intro H locs ls h hP hD hS hl
    unfold f_X4_unit_j15 at h
    refine lv_ldc (v := (-2000000001)) hx hb hown (hts _ kw188) dX4_unit_15 ?_
    rw [← Option.some.inj h]
    exact kri hx hb hr hlk rfl rfl hP hD hS hK dX4_unit_17
  refine lv_if_eq (tgt := 15) hx hb dX4_unit_5 (by decide) (fun c2 => ?_) (fun c2 => ?_)
  · replace h := (if_pos c2).symm.trans h
    exact hJ3  _ _ _ h hP hD hS (lv_sub hl [] rfl)
  · replace h := (if_neg c2).symm.trans h
    refine lv_iload_n hx hb dX4_unit_8 rfl (lv_at hl 2 rfl) ?_
    obtain ⟨q4, hq4, h⟩ := bd_s h
    refine kSi (n := 1) (As := [.int p1]) (rest := []) hx hb hml hown hts (c_X4_isPart l G cI cJ cZ cO cA e _ p1 hq4) (tb_S kw396 kw397 kw1 kw398) rfl rfl (by decide +kernel) ⟨Nat.le_of_ble_eq_true rfl, Nat.le_of_ble_eq_true rfl⟩ hK hP hD hS hA hE rfl rfl hl.1 (Nat.le_of_ble_eq_true rfl) ⟨Nat.zero_le _, Nat.zero_le _⟩ dX4_unit_9 (fun H locs hP hD hS => ?_)
    refine lv_if_ne (tgt := 18) hx hb dX4_unit_12 (by decide) (fun c5 => ?_) (fun c5 => ?_)
    · replace h := (if_neg c5).symm.trans h
      refine lv_aload_n hx hb dX4_unit_18 rfl (lv_at hl 0 rfl) ?_
      refine va_get (D := G) (ci := 4) (v := .ref (aS 0)) (C := RX4) (T := TX4) (N := 4) hx hb hts uX4 hown hK hP 0 rfl rfl 0 (by decide) (hts _ kw165) (fun _ h9 => h9) rfl dX4_unit_19 ?_
      refine lv_iload_n hx hb dX4_unit_22 rfl (lv_at hl 1 rfl) ?_
      refine lv_iload_n hx hb dX4_unit_23 rfl (lv_at hl 2 rfl) ?_
      obtain ⟨q6, hq6, h⟩ := bd_s h
      refine kVi (n := 2) (C := RX2) (ws' := wT aT (aS 0) (aH 0) (aE 0) (aX 0) ++ (wS cI cJ aS pr pu ta se qu im su tc sc rc cn so ++ ([] : va_W))) (As := [.int p0, .int p1]) (rest := []) hx hb hml hown hts (c_X2_unitPart l G cI cJ cZ cO cA e aS _ pr pu ta se qu im su tc sc rc cn so p0 p1 hq6) (tb_V kw536 kw250 kw251 kw2 kw252) rfl rfl (by decide +kernel) ⟨Nat.le_of_ble_eq_true rfl, Nat.le_of_ble_eq_true rfl⟩ hK hP hD hS hA hE 1 rfl rfl [1, 2, 3, 4, 5, 6, 7, 8] [0] rfl rfl rfl 9 ⟨rfl, rfl⟩ (by decide +kernel) (by decide +kernel) rfl rfl hl.1 (Nat.le_of_ble_eq_true rfl) ⟨Nat.zero_le _, Nat.zero_le _⟩ dX4_unit_24 (fun H locs hP hD hS => ?_)
      rw [← Option.some.inj h]
      exact kri hx hb hr hlk rfl rfl hP hD hS hK dX4_unit_27
    · replace h := (if_pos c5).symm.trans h
      exact hJ3  _ _ _ h hP hD hS (lv_sub hl [] rfl)

/-! X2_runningMask -/
def f_X2_runningMask_j28 (v2 : Int32) (t0 : Int32) (t1 : Int32) : Option ((Int32 × Int32) ⊕ (Int32)) :=
  some (Sum.inl ((t1 ||| t0), (v2 + 1)))
def f_X2_runningMask_b4 (pr : Nat → Int32) (ta : Nat → Int32) (tc : Int32) (z1 : Int32 × Int32) : Option ((Int32 × Int32) ⊕ (Int32)) :=
  if tc ≤ z1.2 then (some (Sum.inr z1.1)) else ((f_X2_isRunning pr ta z1.2).bind (fun q3 => if q3 = 0 then (f_X2_runningMask_j28 z1.2 0 z1.1) else (f_X2_runningMask_j28 z1.2 (1 <<< (z1.2 &&& 31)) z1.1)))
def f_X2_runningMask (pr : Nat → Int32) (ta : Nat → Int32) (tc : Int32) : Option (Int32) :=
  (lp (f_X2_runningMask_b4 pr ta tc) 1000 (0, 0)).bind (fun q1 => some q1)

set_option maxHeartbeats 4000000 in
set_option maxRecDepth 100000 in
theorem c_X2_runningMask (l : Launch) (G : va_G) (cI cJ cZ cO cA : ClassId) (e : Nat × Nat) (aS : Nat → Nat) (sz : Nat) (pr : Nat → Int32) (pu : Nat → Int32) (ta : Nat → Int32) (se : Nat → Int32) (qu : Nat → Int32) (im : Nat → Int32) (su : Nat → Int64) (tc : Int32) (sc : Int32) (rc : Int32) (cn : Int32) (so : Int32) {res : Int32} (hf : f_X2_runningMask pr ta tc = some res) : MetI l yX2_runningMask cX2_runningMask 3 .int ({ frames := 3, cells := 0, slots := 0, locals := 64 } : Room) [.ref (aS 0)] G (ty5 cI cJ cZ cO cA) e (wS cI cJ aS pr pu ta se qu im su tc sc rc cn so ++ ([] : va_W)) (wS cI cJ aS pr pu ta se qu im su tc sc rc cn so ++ ([] : va_W)) sz res := by
  refine g_body (QQ := fun A => (qI G (ty5 cI cJ cZ cO cA) A (wS cI cJ aS pr pu ta se qu im su tc sc rc cn so ++ ([] : va_W)) res)) (own := RX2) (by decide) rfl (Nat.le_of_ble_eq_true rfl) ?_
  intro p ev s m below meth c A ls hx hb hr hml hown hts hlk hA hP hD hS hK hE hl
  have hl : lv_has ls 3 [(0, .ref (aS 0))] := hl
  show W p l ev ({ frames := 3, cells := 0, slots := 0, locals := 64 } : Room) s m ([.ref (aS 0)] : List Value).toArray below meth c s.heap [] 0 0 (MQ below (qI G (ty5 cI cJ cZ cO cA) A (wS cI cJ aS pr pu ta se qu im su tc sc rc cn so ++ ([] : va_W)) res) ([.ref (aS 0)] : List Value).toArray s 0 0 A) (F0 m 0 ls [])
  have h := hf
  unfold f_X2_runningMask at h
  refine lv_iconst (v := 0) hx hb dX2_runningMask_0 (by decide) ?_
  refine lv_istore_n (lv' := [(1, .int 0), (0, .ref (aS 0))]) hx hb dX2_runningMask_1 rfl hl (by decide) rfl (fun ls hl => ?_)
  refine lv_iconst (v := 0) hx hb dX2_runningMask_2 (by decide) ?_
  refine lv_istore_n (lv' := [(2, .int 0), (1, .int 0), (0, .ref (aS 0))]) hx hb dX2_runningMask_3 rfl hl (by decide) rfl (fun ls hl => ?_)
  obtain ⟨q1, hq1, h⟩ := bd_s h
  have hX1_0 : ∀ (x1 : Int32) (H : Heap) (locs : List Loc) (ls : Array Slot), x1 = q1 → va_P G vwCl (wS cI cJ aS pr pu ta se qu im su tc sc rc cn so ++ ([] : va_W)) H → va_D A (wS cI cJ aS pr pu ta se qu im su tc sc rc cn so ++ ([] : va_W)) → va_S A s.heap H locs → lv_has ls 3 [(1, .int x1)] → W p l ev ({ frames := 3, cells := 0, slots := 0, locals := 64 } : Room) s m ([.ref (aS 0)] : List Value).toArray below meth c H locs 0 0 (MQ below (qI G (ty5 cI cJ cZ cO cA) A (wS cI cJ aS pr pu ta se qu im su tc sc rc cn so ++ ([] : va_W)) res) ([.ref (aS 0)] : List Value).toArray s 0 0 A) (F0 m 36 ls []) := by
    intro x1 H locs ls e1 hP hD hS hl
    replace e1 := e1.symm
    subst e1
    refine lv_iload_n hx hb dX2_runningMask_36 rfl (lv_at hl 0 rfl) ?_
    rw [← Option.some.inj h]
    exact kri hx hb hr hlk rfl rfl hP hD hS hK dX2_runningMask_37
  have hL1 : ∀ (n : Nat) (z1 : Int32 × Int32) (H : Heap) (locs : List Loc) (ls : Array Slot), lp (f_X2_runningMask_b4 pr ta tc) n z1 = some q1 → va_P G vwCl (wS cI cJ aS pr pu ta se qu im su tc sc rc cn so ++ ([] : va_W)) H → va_D A (wS cI cJ aS pr pu ta se qu im su tc sc rc cn so ++ ([] : va_W)) → va_S A s.heap H locs → lv_has ls 3 [(0, .ref (aS 0)), (1, .int z1.1), (2, .int z1.2)] → W p l ev ({ frames := 3, cells := 0, slots := 0, locals := 64 } : Room) s m ([.ref (aS 0)] : List Value).toArray below meth c H locs 0 0 (MQ below (qI G (ty5 cI cJ cZ cO cA) A (wS cI cJ aS pr pu ta se qu im su tc sc rc cn so ++ ([] : va_W)) res) ([.ref (aS 0)] : List Value).toArray s 0 0 A) (F0 m 4 ls []) := by
    intro n
    induction n with
    | zero => intro z1 H locs ls h; cases h
    | succ n ih1 =>
      intro z1 H locs ls h hP hD hS hl
      obtain ⟨o1, h, h1⟩ := lp_s h
      unfold f_X2_runningMask_b4 at h
      refine lv_iload_n hx hb dX2_runningMask_4 rfl (lv_at hl 2 rfl) ?_
      refine lv_aload_n hx hb dX2_runningMask_5 rfl (lv_at hl 0 rfl) ?_
      refine va_get (D := G) (ci := 2) (v := .int tc) (C := RX2) (T := TX2) (N := 12) hx hb hts uX2 hown hK hP 0 rfl rfl 7 (by decide) (hts _ kw42) (fun _ h9 => h9) rfl dX2_runningMask_6 ?_
      refine lv_icmp_ge (tgt := 36) hx hb dX2_runningMask_9 (by decide) (fun c2 => ?_) (fun c2 => ?_)
      · replace h := (if_pos c2).symm.trans h
        rw [← Option.some.inj h] at h1
        exact hX1_0 z1.1 _ _ _ (lp_x h1) hP hD hS (lv_sub hl [1] rfl)
      · replace h := (if_neg c2).symm.trans h
        refine lv_iload_n hx hb dX2_runningMask_12 rfl (lv_at hl 1 rfl) ?_
        refine lv_aload_n hx hb dX2_runningMask_13 rfl (lv_at hl 0 rfl) ?_
        refine lv_iload_n hx hb dX2_runningMask_14 rfl (lv_at hl 2 rfl) ?_
        obtain ⟨q3, hq3, h⟩ := bd_s h
        refine kVi (n := 1) (C := RX2) (ws' := wS cI cJ aS pr pu ta se qu im su tc sc rc cn so ++ ([] : va_W)) (As := [.int z1.2]) (rest := [.int z1.1]) hx hb hml hown hts (c_X2_isRunning l G cI cJ cZ cO cA e aS _ pr pu ta se qu im su tc sc rc cn so z1.2 hq3) (tb_V kw233 kw234 kw235 kw2 kw236) rfl rfl (by decide +kernel) ⟨Nat.le_of_ble_eq_true rfl, Nat.le_of_ble_eq_true rfl⟩ hK hP hD hS hA hE 0 rfl rfl [0, 1, 2, 3, 4, 5, 6, 7] [] rfl rfl rfl 8 ⟨rfl, rfl⟩ (by decide +kernel) (by decide +kernel) rfl rfl hl.1 (Nat.le_of_ble_eq_true rfl) ⟨Nat.zero_le _, Nat.zero_le _⟩ dX2_runningMask_15 (fun H locs hP hD hS => ?_)
        have hJ5 : ∀ (v2_5 : Int32) (t0_5 : Int32) (t1_5 : Int32) (H : Heap) (locs : List Loc) (ls : Array Slot), f_X2_runningMask_j28 v2_5 t0_5 t1_5 = some o1 → va_P G vwCl (wS cI cJ aS pr pu ta se qu im su tc sc rc cn so ++ ([] : va_W)) H → va_D A (wS cI cJ aS pr pu ta se qu im su tc sc rc cn so ++ ([] : va_W)) → va_S A s.heap H locs → lv_has ls 3 [(0, .ref (aS 0)), (2, .int v2_5)] → W p l ev ({ frames := 3, cells := 0, slots := 0, locals := 64 } : Room) s m ([.ref (aS 0)] : List Value).toArray below meth c H locs 0 0 (MQ below (qI G (ty5 cI cJ cZ cO cA) A (wS cI cJ aS pr pu ta se qu im su tc sc rc cn so ++ ([] : va_W)) res) ([.ref (aS 0)] : List Value).toArray s 0 0 A) (F0 m 28 ls [.int t0_5, .int t1_5]) := by
          intro v2_5 t0_5 t1_5 H locs ls h hP hD hS hl
          unfold f_X2_runningMask_j28 at h
          refine lv_ior hx hb dX2_runningMask_28 ?_
          refine lv_istore_n (lv' := [(1, .int (t1_5 ||| t0_5)), (0, .ref (aS 0)), (2, .int v2_5)]) hx hb dX2_runningMask_29 rfl hl (by decide) rfl (fun ls hl => ?_)
          refine lv_iinc (v := (v2_5 + 1)) (lv' := [(2, .int (v2_5 + 1)), (1, .int (t1_5 ||| t0_5)), (0, .ref (aS 0))]) hx hb dX2_runningMask_30 hl (k := 2) rfl rfl (by decide) rfl (fun ls hl => ?_)
          refine lv_goto (tgt := 4) hx hb dX2_runningMask_33 (by decide) ?_
          rw [← Option.some.inj h] at h1
          exact ih1 ((t1_5 ||| t0_5), (v2_5 + 1)) _ _ _ (lp_b h1) hP hD hS (lv_sub hl [2, 1, 0] rfl)
        refine lv_if_eq (tgt := 27) hx hb dX2_runningMask_18 (by decide) (fun c4 => ?_) (fun c4 => ?_)
        · replace h := (if_pos c4).symm.trans h
          refine lv_iconst (v := 0) hx hb dX2_runningMask_27 (by decide) ?_
          exact hJ5 z1.2 0 z1.1 _ _ _ h hP hD hS (lv_sub hl [0, 2] rfl)
        · replace h := (if_neg c4).symm.trans h
          refine lv_iconst (v := 1) hx hb dX2_runningMask_21 (by decide) ?_
          refine lv_iload_n hx hb dX2_runningMask_22 rfl (lv_at hl 2 rfl) ?_
          refine lv_ishl hx hb dX2_runningMask_23 ?_
          refine lv_goto (tgt := 28) hx hb dX2_runningMask_24 (by decide) ?_
          exact hJ5 z1.2 (1 <<< (z1.2 &&& 31)) z1.1 _ _ _ h hP hD hS (lv_sub hl [0, 2] rfl)
  exact hL1 _ (0, 0) _ _ _ hq1 hP hD hS (lv_sub hl [2, 1, 0] rfl)

/-! X2_priceOfTick -/
def f_X2_priceOfTick_j34 (t0 : Int32) (t1 : Int32) : Option (Int32) :=
  some (t1 * t0)
def f_X2_priceOfTick (pr : Nat → Int32) (ta : Nat → Int32) (p0 : Int32) : Option (Int32) :=
  (f_X2_property pr p0 4).bind (fun q1 => gd (ib (1 - q1) 2) ((f_X2_property pr p0 3).bind (fun q3 => (f_X2_fuelOf pr ta p0).bind (fun q4 => if (ta (1 - q1).toNatClampNeg) ≤ q4 then (f_X2_priceOfTick_j34 1 q3) else (f_X2_priceOfTick_j34 2 q3)))))

set_option maxHeartbeats 4000000 in
set_option maxRecDepth 100000 in
theorem c_X2_priceOfTick (l : Launch) (G : va_G) (cI cJ cZ cO cA : ClassId) (e : Nat × Nat) (aS : Nat → Nat) (sz : Nat) (pr : Nat → Int32) (pu : Nat → Int32) (ta : Nat → Int32) (se : Nat → Int32) (qu : Nat → Int32) (im : Nat → Int32) (su : Nat → Int64) (tc : Int32) (sc : Int32) (rc : Int32) (cn : Int32) (so : Int32) (p0 : Int32) {res : Int32} (hf : f_X2_priceOfTick pr ta p0 = some res) : MetI l yX2_priceOfTick cX2_priceOfTick 3 .int ({ frames := 2, cells := 0, slots := 0, locals := 43 } : Room) [.ref (aS 0), .int p0] G (ty5 cI cJ cZ cO cA) e (wS cI cJ aS pr pu ta se qu im su tc sc rc cn so ++ ([] : va_W)) (wS cI cJ aS pr pu ta se qu im su tc sc rc cn so ++ ([] : va_W)) sz res := by
  refine g_body (QQ := fun A => (qI G (ty5 cI cJ cZ cO cA) A (wS cI cJ aS pr pu ta se qu im su tc sc rc cn so ++ ([] : va_W)) res)) (own := RX2) (by decide) rfl (Nat.le_of_ble_eq_true rfl) ?_
  intro p ev s m below meth c A ls hx hb hr hml hown hts hlk hA hP hD hS hK hE hl
  have hl : lv_has ls 3 [(0, .ref (aS 0)), (1, .int p0)] := hl
  show W p l ev ({ frames := 2, cells := 0, slots := 0, locals := 43 } : Room) s m ([.ref (aS 0), .int p0] : List Value).toArray below meth c s.heap [] 0 0 (MQ below (qI G (ty5 cI cJ cZ cO cA) A (wS cI cJ aS pr pu ta se qu im su tc sc rc cn so ++ ([] : va_W)) res) ([.ref (aS 0), .int p0] : List Value).toArray s 0 0 A) (F0 m 0 ls [])
  have h := hf
  unfold f_X2_priceOfTick at h
  refine lv_aload_n hx hb dX2_priceOfTick_0 rfl (lv_at hl 0 rfl) ?_
  refine va_get (D := G) (ci := 2) (v := .ref (aS 3)) (C := RX2) (T := TX2) (N := 12) hx hb hts uX2 hown hK hP 0 rfl rfl 2 (by decide) (hts _ kw31) (fun _ h9 => h9) rfl dX2_priceOfTick_1 ?_
  refine lv_iconst (v := 1) hx hb dX2_priceOfTick_4 (by decide) ?_
  refine lv_aload_n hx hb dX2_priceOfTick_5 rfl (lv_at hl 0 rfl) ?_
  refine lv_iload_n hx hb dX2_priceOfTick_6 rfl (lv_at hl 1 rfl) ?_
  refine lv_iconst (v := 4) hx hb dX2_priceOfTick_7 (by decide) ?_
  obtain ⟨q1, hq1, h⟩ := bd_s h
  refine kVi (n := 2) (C := RX2) (ws' := wS cI cJ aS pr pu ta se qu im su tc sc rc cn so ++ ([] : va_W)) (As := [.int p0, .int 4]) (rest := [.int 1, .ref (aS 3)]) hx hb hml hown hts (c_X2_property l G cI cJ cZ cO cA e aS _ pr pu ta se qu im su tc sc rc cn so p0 4 hq1) (tb_V kw237 kw238 kw239 kw2 kw240) rfl rfl (by decide +kernel) ⟨Nat.le_of_ble_eq_true rfl, Nat.le_of_ble_eq_true rfl⟩ hK hP hD hS hA hE 0 rfl rfl [0, 1, 2, 3, 4, 5, 6, 7] [] rfl rfl rfl 8 ⟨rfl, rfl⟩ (by decide +kernel) (by decide +kernel) rfl rfl hl.1 (Nat.le_of_ble_eq_true rfl) ⟨Nat.zero_le _, Nat.zero_le _⟩ dX2_priceOfTick_8 (fun H locs hP hD hS => ?_)
  refine lv_isub hx hb dX2_priceOfTick_11 ?_
  obtain ⟨g2, h⟩ := gd_s h
  refine va_iald hx hb hK hP 3 0 rfl rfl (ib_in g2) dX2_priceOfTick_12 ?_
  refine lv_istore_n (lv' := [(2, .int (ta (1 - q1).toNatClampNeg)), (0, .ref (aS 0)), (1, .int p0)]) hx hb dX2_priceOfTick_13 rfl hl (by decide) rfl (fun ls hl => ?_)
  refine lv_aload_n hx hb dX2_priceOfTick_14 rfl (lv_at hl 1 rfl) ?_
  refine lv_iload_n hx hb dX2_priceOfTick_15 rfl (lv_at hl 2 rfl) ?_
  refine lv_iconst (v := 3) hx hb dX2_priceOfTick_16 (by decide) ?_
  obtain ⟨q3, hq3, h⟩ := bd_s h
  refine kVi (n := 2) (C := RX2) (ws' := wS cI cJ aS pr pu ta se qu im su tc sc rc cn so ++ ([] : va_W)) (As := [.int p0, .int 3]) (rest := []) hx hb hml hown hts (c_X2_property l G cI cJ cZ cO cA e aS _ pr pu ta se qu im su tc sc rc cn so p0 3 hq3) (tb_V kw237 kw238 kw239 kw2 kw240) rfl rfl (by decide +kernel) ⟨Nat.le_of_ble_eq_true rfl, Nat.le_of_ble_eq_true rfl⟩ hK hP hD hS hA hE 0 rfl rfl [0, 1, 2, 3, 4, 5, 6, 7] [] rfl rfl rfl 8 ⟨rfl, rfl⟩ (by decide +kernel) (by decide +kernel) rfl rfl hl.1 (Nat.le_of_ble_eq_true rfl) ⟨Nat.zero_le _, Nat.zero_le _⟩ dX2_priceOfTick_17 (fun H locs hP hD hS => ?_)
  refine lv_aload_n hx hb dX2_priceOfTick_20 rfl (lv_at hl 1 rfl) ?_
  refine lv_iload_n hx hb dX2_priceOfTick_21 rfl (lv_at hl 2 rfl) ?_
  obtain ⟨q4, hq4, h⟩ := bd_s h
  refine kVi (n := 1) (C := RX2) (ws' := wS cI cJ aS pr pu ta se qu im su tc sc rc cn so ++ ([] : va_W)) (As := [.int p0]) (rest := [.int q3]) hx hb hml hown hts (c_X2_fuelOf l G cI cJ cZ cO cA e aS _ pr pu ta se qu im su tc sc rc cn so p0 hq4) (tb_V kw241 kw242 kw243 kw2 kw244) rfl rfl (by decide +kernel) ⟨Nat.le_of_ble_eq_true rfl, Nat.le_of_ble_eq_true rfl⟩ hK hP hD hS hA hE 0 rfl rfl [0, 1, 2, 3, 4, 5, 6, 7] [] rfl rfl rfl 8 ⟨rfl, rfl⟩ (by decide +kernel) (by decide +kernel) rfl rfl hl.1 (Nat.le_of_ble_eq_true rfl) ⟨Nat.zero_le _, Nat.zero_le _⟩ dX2_priceOfTick_22 (fun H locs hP hD hS => ?_)
  refine lv_iload_n hx hb dX2_priceOfTick_25 rfl (lv_at hl 0 rfl) ?_
  have hJ6 : ∀ (t0_6 : Int32) (t1_6 : Int32) (H : Heap) (locs : List Loc) (ls : Array Slot), f_X2_priceOfTick_j34 t0_6 t1_6 = some res → va_P G vwCl (wS cI cJ aS pr pu ta se qu im su tc sc rc cn so ++ ([] : va_W)) H → va_D A (wS cI cJ aS pr pu ta se qu im su tc sc rc cn so ++ ([] : va_W)) → va_S A s.heap H locs → lv_has ls 3 [] → W p l ev ({ frames := 2, cells := 0, slots := 0, locals := 43 } : Room) s m ([.ref (aS 0), .int p0] : List Value).toArray below meth c H locs 0 0 (MQ below (qI G (ty5 cI cJ cZ cO cA) A (wS cI cJ aS pr pu ta se qu im su tc sc rc cn so ++ ([] : va_W)) res) ([.ref (aS 0), .int p0] : List Value).toArray s 0 0 A) (F0 m 34 ls [.int t0_6, .int t1_6]) := by
    intro t0_6 t1_6 H locs ls h hP hD hS hl
    unfold f_X2_priceOfTick_j34 at h
    refine lv_imul hx hb dX2_priceOfTick_34 ?_
    rw [← Option.some.inj h]
    exact kri hx hb hr hlk rfl rfl hP hD hS hK dX2_priceOfTick_35
  refine lv_icmp_ge (tgt := 33) hx hb dX2_priceOfTick_26 (by decide) (fun c5 => ?_) (fun c5 => ?_)
  · replace h := (if_pos c5).symm.trans h
    refine lv_iconst (v := 1) hx hb dX2_priceOfTick_33 (by decide) ?_
    exact hJ6 1 q3 _ _ _ h hP hD hS (lv_sub hl [] rfl)
  · replace h := (if_neg c5).symm.trans h
    refine lv_iconst (v := 2) hx hb dX2_priceOfTick_29 (by decide) ?_
    refine lv_goto (tgt := 34) hx hb dX2_priceOfTick_30 (by decide) ?_
    exact hJ6 2 q3 _ _ _ h hP hD hS (lv_sub hl [] rfl)

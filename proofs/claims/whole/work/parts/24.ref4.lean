/-! X5_undo -/
def f_X5_undo (row : Nat → Int32) (tot : Nat → Int64) (sav : Int32) : Option (Int32 × (Nat → Int32) × (Nat → Int64) × Int32) :=
  if sav = 0 then (some ((-2000000003), row, tot, sav)) else ((f_X5_copies row tot sav 0).bind (fun q2 => some ((sav - 1), q2.1, q2.2, (sav - 1))))

set_option maxHeartbeats 4000000 in
set_option maxRecDepth 100000 in
theorem c_X5_undo (l : Launch) (G : va_G) (cI cJ cZ cO cA : ClassId) (e : Nat × Nat) (aM : Nat → Nat) (sz : Nat) (row : Nat → Int32) (tot : Nat → Int64) (tab : Nat → Int64) (goa : Nat → Int64) (bes : Nat → Int64) (tic : Nat → Int64) (txt : Nat → Int32) (par : Nat → Int32) (sav : Int32) (bwh : Int64) (bpr : Int64) (bse : Int32) (len : Int32) (mat : Int32) (ask : Int32) (hh : Int64) {res : Int32 × (Nat → Int32) × (Nat → Int64) × Int32} (hf : f_X5_undo row tot sav = some res) : MetI l yX5_undo cX5_undo 1 .int ({ frames := 1, cells := 0, slots := 0, locals := 23 } : Room) [.ref (aM 0)] G (ty5 cI cJ cZ cO cA) e (wM cI cJ aM row tot tab goa bes tic txt par sav bwh bpr bse len mat ask hh ++ ([] : va_W)) (wM cI cJ aM res.2.1 res.2.2.1 tab goa bes tic txt par res.2.2.2 bwh bpr bse len mat ask hh ++ ([] : va_W)) sz res.1 := by
  refine g_body (QQ := fun A => (qI G (ty5 cI cJ cZ cO cA) A (wM cI cJ aM res.2.1 res.2.2.1 tab goa bes tic txt par res.2.2.2 bwh bpr bse len mat ask hh ++ ([] : va_W)) res.1)) (own := RX5) (by decide) rfl (Nat.le_of_ble_eq_true rfl) ?_
  intro p ev s m below meth c A ls hx hb hr hml hown hts hlk hA hP hD hS hK hE hl
  have hl : lv_has ls 1 [(0, .ref (aM 0))] := hl
  show W p l ev ({ frames := 1, cells := 0, slots := 0, locals := 23 } : Room) s m ([.ref (aM 0)] : List Value).toArray below meth c s.heap [] 0 0 (MQ below (qI G (ty5 cI cJ cZ cO cA) A (wM cI cJ aM res.2.1 res.2.2.1 tab goa bes tic txt par res.2.2.2 bwh bpr bse len mat ask hh ++ ([] : va_W)) res.1) ([.ref (aM 0)] : List Value).toArray s 0 0 A) (F0 m 0 ls [])
  have h := hf
  unfold f_X5_undo at h
  refine lv_aload_n hx hb dX5_undo_0 rfl (lv_at hl 0 rfl) ?_
  refine va_get (D := G) (ci := 5) (v := .int sav) (C := RX5) (T := TX5) (N := 16) hx hb hts uX5 hown hK hP 0 rfl rfl 2 (by decide) (hts _ kw581) (fun _ h9 => h9) rfl dX5_undo_1 ?_
  refine lv_if_ne (tgt := 10) hx hb dX5_undo_4 (by decide) (fun c1 => ?_) (fun c1 => ?_)
  · replace h := (if_neg c1).symm.trans h
    refine lv_aload_n hx hb dX5_undo_10 rfl (lv_at hl 0 rfl) ?_
    refine lv_aload_n hx hb dX5_undo_11 rfl (lv_at hl 0 rfl) ?_
    refine va_get (D := G) (ci := 5) (v := .int sav) (C := RX5) (T := TX5) (N := 16) hx hb hts uX5 hown hK hP 0 rfl rfl 2 (by decide) (hts _ kw581) (fun _ h9 => h9) rfl dX5_undo_12 ?_
    refine lv_iconst (v := 0) hx hb dX5_undo_15 (by decide) ?_
    obtain ⟨q2, hq2, h⟩ := bd_s h
    refine kVv (n := 2) (C := RX5) (ws' := wM cI cJ aM q2.1 q2.2 tab goa bes tic txt par sav bwh bpr bse len mat ask hh ++ ([] : va_W)) (As := [.int sav, .int 0]) (rest := []) hx hb hml hown hts (c_X5_copies l G cI cJ cZ cO cA e aM _ row tot tab goa bes tic txt par sav bwh bpr bse len mat ask hh sav 0 hq2) (tb_V kw645 kw647 kv15 kw7 kw648) rfl rfl (by decide +kernel) ⟨Nat.le_of_ble_eq_true rfl, Nat.le_of_ble_eq_true rfl⟩ hK hP hD hS hA hE 0 rfl rfl [0, 1, 2, 3, 4, 5, 6, 7, 8] [] rfl rfl rfl 9 ⟨rfl, rfl⟩ (by decide +kernel) (by decide +kernel) rfl rfl hl.1 (Nat.le_of_ble_eq_true rfl) ⟨Nat.zero_le _, Nat.zero_le _⟩ dX5_undo_16 (fun H locs hP hD hS => ?_)
    refine lv_aload_n hx hb dX5_undo_19 rfl (lv_at hl 0 rfl) ?_
    refine lv_dup hx hb dX5_undo_20 rfl ?_
    refine va_get (D := G) (ci := 5) (v := .int sav) (C := RX5) (T := TX5) (N := 16) hx hb hts uX5 hown hK hP 0 rfl rfl 2 (by decide) (hts _ kw581) (fun _ h9 => h9) rfl dX5_undo_21 ?_
    refine lv_iconst (v := 1) hx hb dX5_undo_24 (by decide) ?_
    refine lv_isub hx hb dX5_undo_25 ?_
    refine va_put (D := G) (ci := 5) (ty := .int) (v := .int (sav - 1)) (C := RX5) (T := TX5) (N := 16) hx hb hts uX5 tyX5 tyX5_ok nmX5 hown hK hP hD hS 0 rfl rfl 2 (by decide) (hts _ kw581) (fun _ h9 => h9) rfl (by decide +kernel) rfl rfl (Nat.le_of_ble_eq_true rfl) dX5_undo_26 (fun H locs hP hD hS => ?_)
    have hP : va_P G vwCl (wM cI cJ aM q2.1 q2.2 tab goa bes tic txt par (sav - 1) bwh bpr bse len mat ask hh ++ ([] : va_W)) H := hP
    have hD : va_D A (wM cI cJ aM q2.1 q2.2 tab goa bes tic txt par (sav - 1) bwh bpr bse len mat ask hh ++ ([] : va_W)) := hD
    refine lv_aload_n hx hb dX5_undo_29 rfl (lv_at hl 0 rfl) ?_
    refine va_get (D := G) (ci := 5) (v := .int (sav - 1)) (C := RX5) (T := TX5) (N := 16) hx hb hts uX5 hown hK hP 0 rfl rfl 2 (by decide) (hts _ kw581) (fun _ h9 => h9) rfl dX5_undo_30 ?_
    rw [← Option.some.inj h]
    exact kri hx hb hr hlk rfl rfl hP hD hS hK dX5_undo_33
  · replace h := (if_pos c1).symm.trans h
    refine lv_ldc (v := (-2000000003)) hx hb hown (hts _ kw723) dX5_undo_7 ?_
    rw [← Option.some.inj h]
    exact kri hx hb hr hlk rfl rfl hP hD hS hK dX5_undo_9

/-! X5_type -/
def f_X5_type (txt : Nat → Int32) (len : Int32) (p0 : Int32) : Option (Int32 × (Nat → Int32) × Int32) :=
  (f_X5_in p0 0 255).bind (fun q1 => if q1 = 0 then (some ((-2000000002), txt, len)) else (if len = 100 then (some ((-2000000004), txt, len)) else (gd (ib len 100) (some ((len + 1), (upd txt len.toNatClampNeg p0), (len + 1))))))

set_option maxHeartbeats 4000000 in
set_option maxRecDepth 100000 in
theorem c_X5_type (l : Launch) (G : va_G) (cI cJ cZ cO cA : ClassId) (e : Nat × Nat) (aM : Nat → Nat) (sz : Nat) (row : Nat → Int32) (tot : Nat → Int64) (tab : Nat → Int64) (goa : Nat → Int64) (bes : Nat → Int64) (tic : Nat → Int64) (txt : Nat → Int32) (par : Nat → Int32) (sav : Int32) (bwh : Int64) (bpr : Int64) (bse : Int32) (len : Int32) (mat : Int32) (ask : Int32) (hh : Int64) (p0 : Int32) {res : Int32 × (Nat → Int32) × Int32} (hf : f_X5_type txt len p0 = some res) : MetI l yX5_type cX5_type 2 .int ({ frames := 1, cells := 0, slots := 0, locals := 22 } : Room) [.ref (aM 0), .int p0] G (ty5 cI cJ cZ cO cA) e (wM cI cJ aM row tot tab goa bes tic txt par sav bwh bpr bse len mat ask hh ++ ([] : va_W)) (wM cI cJ aM row tot tab goa bes tic res.2.1 par sav bwh bpr bse res.2.2 mat ask hh ++ ([] : va_W)) sz res.1 := by
  refine g_body (QQ := fun A => (qI G (ty5 cI cJ cZ cO cA) A (wM cI cJ aM row tot tab goa bes tic res.2.1 par sav bwh bpr bse res.2.2 mat ask hh ++ ([] : va_W)) res.1)) (own := RX5) (by decide) rfl (Nat.le_of_ble_eq_true rfl) ?_
  intro p ev s m below meth c A ls hx hb hr hml hown hts hlk hA hP hD hS hK hE hl
  have hl : lv_has ls 2 [(0, .ref (aM 0)), (1, .int p0)] := hl
  show W p l ev ({ frames := 1, cells := 0, slots := 0, locals := 22 } : Room) s m ([.ref (aM 0), .int p0] : List Value).toArray below meth c s.heap [] 0 0 (MQ below (qI G (ty5 cI cJ cZ cO cA) A (wM cI cJ aM row tot tab goa bes tic res.2.1 par sav bwh bpr bse res.2.2 mat ask hh ++ ([] : va_W)) res.1) ([.ref (aM 0), .int p0] : List Value).toArray s 0 0 A) (F0 m 0 ls [])
  have h := hf
  unfold f_X5_type at h
  refine lv_iload_n hx hb dX5_type_0 rfl (lv_at hl 1 rfl) ?_
  refine lv_iconst (v := 0) hx hb dX5_type_1 (by decide) ?_
  refine lv_sipush (v := 255) hx hb dX5_type_2 (by decide) ?_
  obtain ⟨q1, hq1, h⟩ := bd_s h
  refine kSi (n := 3) (As := [.int p0, .int 0, .int 255]) (rest := []) hx hb hml hown hts (c_X5_in l G cI cJ cZ cO cA e _ p0 0 255 hq1) (tb_S kw635 kw636 kw7 kw637) rfl rfl (by decide +kernel) ⟨Nat.le_of_ble_eq_true rfl, Nat.le_of_ble_eq_true rfl⟩ hK hP hD hS hA hE rfl rfl hl.1 (Nat.le_of_ble_eq_true rfl) ⟨Nat.zero_le _, Nat.zero_le _⟩ dX5_type_5 (fun H locs hP hD hS => ?_)
  refine lv_if_ne (tgt := 14) hx hb dX5_type_8 (by decide) (fun c2 => ?_) (fun c2 => ?_)
  · replace h := (if_neg c2).symm.trans h
    refine lv_aload_n hx hb dX5_type_14 rfl (lv_at hl 0 rfl) ?_
    refine va_get (D := G) (ci := 5) (v := .int len) (C := RX5) (T := TX5) (N := 16) hx hb hts uX5 hown hK hP 0 rfl rfl 11 (by decide) (hts _ kw590) (fun _ h9 => h9) rfl dX5_type_15 ?_
    refine lv_bipush (v := 100) hx hb dX5_type_18 (by decide) ?_
    refine lv_icmp_ne (tgt := 26) hx hb dX5_type_20 (by decide) (fun c3 => ?_) (fun c3 => ?_)
    · replace h := (if_neg c3).symm.trans h
      refine lv_aload_n hx hb dX5_type_26 rfl (lv_at hl 0 rfl) ?_
      refine va_get (D := G) (ci := 5) (v := .ref (aM 7)) (C := RX5) (T := TX5) (N := 16) hx hb hts uX5 hown hK hP 0 rfl rfl 10 (by decide) (hts _ kw589) (fun _ h9 => h9) rfl dX5_type_27 ?_
      refine lv_aload_n hx hb dX5_type_30 rfl (lv_at hl 0 rfl) ?_
      refine va_get (D := G) (ci := 5) (v := .int len) (C := RX5) (T := TX5) (N := 16) hx hb hts uX5 hown hK hP 0 rfl rfl 11 (by decide) (hts _ kw590) (fun _ h9 => h9) rfl dX5_type_31 ?_
      refine lv_iload_n hx hb dX5_type_34 rfl (lv_at hl 1 rfl) ?_
      obtain ⟨g4, h⟩ := gd_s h
      refine va_iast hx hb hK hP hD hS 7 0 rfl rfl (ib_in g4) dX5_type_35 (fun H locs hP hD hS => ?_)
      have hP : va_P G vwCl (wM cI cJ aM row tot tab goa bes tic (upd txt len.toNatClampNeg p0) par sav bwh bpr bse len mat ask hh ++ ([] : va_W)) H := hP
      have hD : va_D A (wM cI cJ aM row tot tab goa bes tic (upd txt len.toNatClampNeg p0) par sav bwh bpr bse len mat ask hh ++ ([] : va_W)) := hD
      refine lv_aload_n hx hb dX5_type_36 rfl (lv_at hl 0 rfl) ?_
      refine lv_dup hx hb dX5_type_37 rfl ?_
      refine va_get (D := G) (ci := 5) (v := .int len) (C := RX5) (T := TX5) (N := 16) hx hb hts uX5 hown hK hP 0 rfl rfl 11 (by decide) (hts _ kw590) (fun _ h9 => h9) rfl dX5_type_38 ?_
      refine lv_iconst (v := 1) hx hb dX5_type_41 (by decide) ?_
      refine lv_iadd hx hb dX5_type_42 ?_
      refine va_put (D := G) (ci := 5) (ty := .int) (v := .int (len + 1)) (C := RX5) (T := TX5) (N := 16) hx hb hts uX5 tyX5 tyX5_ok nmX5 hown hK hP hD hS 0 rfl rfl 11 (by decide) (hts _ kw590) (fun _ h9 => h9) rfl (by decide +kernel) rfl rfl (Nat.le_of_ble_eq_true rfl) dX5_type_43 (fun H locs hP hD hS => ?_)
      have hP : va_P G vwCl (wM cI cJ aM row tot tab goa bes tic (upd txt len.toNatClampNeg p0) par sav bwh bpr bse (len + 1) mat ask hh ++ ([] : va_W)) H := hP
      have hD : va_D A (wM cI cJ aM row tot tab goa bes tic (upd txt len.toNatClampNeg p0) par sav bwh bpr bse (len + 1) mat ask hh ++ ([] : va_W)) := hD
      refine lv_aload_n hx hb dX5_type_46 rfl (lv_at hl 0 rfl) ?_
      refine va_get (D := G) (ci := 5) (v := .int (len + 1)) (C := RX5) (T := TX5) (N := 16) hx hb hts uX5 hown hK hP 0 rfl rfl 11 (by decide) (hts _ kw590) (fun _ h9 => h9) rfl dX5_type_47 ?_
      rw [← Option.some.inj h]
      exact kri hx hb hr hlk rfl rfl hP hD hS hK dX5_type_50
    · replace h := (if_pos c3).symm.trans h
      refine lv_ldc (v := (-2000000004)) hx hb hown (hts _ kw640) dX5_type_23 ?_
      rw [← Option.some.inj h]
      exact kri hx hb hr hlk rfl rfl hP hD hS hK dX5_type_25
  · replace h := (if_pos c2).symm.trans h
    refine lv_ldc (v := (-2000000002)) hx hb hown (hts _ kw639) dX5_type_11 ?_
    rw [← Option.some.inj h]
    exact kri hx hb hr hlk rfl rfl hP hD hS hK dX5_type_13

/-! X5_clearText -/
def f_X5_clearText (len : Int32) : Option (Int32 × Int32) :=
  some (len, 0)

set_option maxHeartbeats 4000000 in
set_option maxRecDepth 100000 in
theorem c_X5_clearText (l : Launch) (G : va_G) (cI cJ cZ cO cA : ClassId) (e : Nat × Nat) (aM : Nat → Nat) (sz : Nat) (row : Nat → Int32) (tot : Nat → Int64) (tab : Nat → Int64) (goa : Nat → Int64) (bes : Nat → Int64) (tic : Nat → Int64) (txt : Nat → Int32) (par : Nat → Int32) (sav : Int32) (bwh : Int64) (bpr : Int64) (bse : Int32) (len : Int32) (mat : Int32) (ask : Int32) (hh : Int64) {res : Int32 × Int32} (hf : f_X5_clearText len = some res) : MetI l yX5_clearText cX5_clearText 2 .int ({ frames := 0, cells := 0, slots := 0, locals := 0 } : Room) [.ref (aM 0)] G (ty5 cI cJ cZ cO cA) e (wM cI cJ aM row tot tab goa bes tic txt par sav bwh bpr bse len mat ask hh ++ ([] : va_W)) (wM cI cJ aM row tot tab goa bes tic txt par sav bwh bpr bse res.2 mat ask hh ++ ([] : va_W)) sz res.1 := by
  refine g_body (QQ := fun A => (qI G (ty5 cI cJ cZ cO cA) A (wM cI cJ aM row tot tab goa bes tic txt par sav bwh bpr bse res.2 mat ask hh ++ ([] : va_W)) res.1)) (own := RX5) (by decide) rfl (Nat.le_of_ble_eq_true rfl) ?_
  intro p ev s m below meth c A ls hx hb hr hml hown hts hlk hA hP hD hS hK hE hl
  have hl : lv_has ls 2 [(0, .ref (aM 0))] := hl
  show W p l ev ({ frames := 0, cells := 0, slots := 0, locals := 0 } : Room) s m ([.ref (aM 0)] : List Value).toArray below meth c s.heap [] 0 0 (MQ below (qI G (ty5 cI cJ cZ cO cA) A (wM cI cJ aM row tot tab goa bes tic txt par sav bwh bpr bse res.2 mat ask hh ++ ([] : va_W)) res.1) ([.ref (aM 0)] : List Value).toArray s 0 0 A) (F0 m 0 ls [])
  have h := hf
  unfold f_X5_clearText at h
  refine lv_aload_n hx hb dX5_clearText_0 rfl (lv_at hl 0 rfl) ?_
  refine va_get (D := G) (ci := 5) (v := .int len) (C := RX5) (T := TX5) (N := 16) hx hb hts uX5 hown hK hP 0 rfl rfl 11 (by decide) (hts _ kw590) (fun _ h9 => h9) rfl dX5_clearText_1 ?_
  refine lv_istore_n (lv' := [(1, .int len), (0, .ref (aM 0))]) hx hb dX5_clearText_4 rfl hl (by decide) rfl (fun ls hl => ?_)
  refine lv_aload_n hx hb dX5_clearText_5 rfl (lv_at hl 1 rfl) ?_
  refine lv_iconst (v := 0) hx hb dX5_clearText_6 (by decide) ?_
  refine va_put (D := G) (ci := 5) (ty := .int) (v := .int 0) (C := RX5) (T := TX5) (N := 16) hx hb hts uX5 tyX5 tyX5_ok nmX5 hown hK hP hD hS 0 rfl rfl 11 (by decide) (hts _ kw590) (fun _ h9 => h9) rfl (by decide +kernel) rfl rfl (Nat.le_of_ble_eq_true rfl) dX5_clearText_7 (fun H locs hP hD hS => ?_)
  have hP : va_P G vwCl (wM cI cJ aM row tot tab goa bes tic txt par sav bwh bpr bse 0 mat ask hh ++ ([] : va_W)) H := hP
  have hD : va_D A (wM cI cJ aM row tot tab goa bes tic txt par sav bwh bpr bse 0 mat ask hh ++ ([] : va_W)) := hD
  refine lv_iload_n hx hb dX5_clearText_10 rfl (lv_at hl 0 rfl) ?_
  rw [← Option.some.inj h]
  exact kri hx hb hr hlk rfl rfl hP hD hS hK dX5_clearText_11

/-! X5_here -/
def f_X5_here_b0 (txt : Nat → Int32) (len : Int32) (z1 : Int32) : Option ((Int32) ⊕ (Int32)) :=
  if len ≤ z1 then (some (Sum.inr z1)) else (gd (ib z1 100) (if (txt z1.toNatClampNeg) = 32 then (some (Sum.inl (z1 + 1))) else (some (Sum.inr z1))))
def f_X5_here (txt : Nat → Int32) (len : Int32) (mat : Int32) : Option (Int32 × Int32) :=
  (lp (f_X5_here_b0 txt len) 1000 mat).bind (fun q1 => if len ≤ q1 then (some ((-1), q1)) else (gd (ib q1 100) (some ((txt q1.toNatClampNeg), q1))))

set_option maxHeartbeats 4000000 in
set_option maxRecDepth 100000 in
theorem c_X5_here (l : Launch) (G : va_G) (cI cJ cZ cO cA : ClassId) (e : Nat × Nat) (aM : Nat → Nat) (sz : Nat) (row : Nat → Int32) (tot : Nat → Int64) (tab : Nat → Int64) (goa : Nat → Int64) (bes : Nat → Int64) (tic : Nat → Int64) (txt : Nat → Int32) (par : Nat → Int32) (sav : Int32) (bwh : Int64) (bpr : Int64) (bse : Int32) (len : Int32) (mat : Int32) (ask : Int32) (hh : Int64) {res : Int32 × Int32} (hf : f_X5_here txt len mat = some res) : MetI l yX5_here cX5_here 1 .int ({ frames := 0, cells := 0, slots := 0, locals := 0 } : Room) [.ref (aM 0)] G (ty5 cI cJ cZ cO cA) e (wM cI cJ aM row tot tab goa bes tic txt par sav bwh bpr bse len mat ask hh ++ ([] : va_W)) (wM cI cJ aM row tot tab goa bes tic txt par sav bwh bpr bse len res.2 ask hh ++ ([] : va_W)) sz res.1 := by
  refine g_body (QQ := fun A => (qI G (ty5 cI cJ cZ cO cA) A (wM cI cJ aM row tot tab goa bes tic txt par sav bwh bpr bse len res.2 ask hh ++ ([] : va_W)) res.1)) (own := RX5) (by decide) rfl (Nat.le_of_ble_eq_true rfl) ?_
  intro p ev s m below meth c A ls hx hb hr hml hown hts hlk hA hP hD hS hK hE hl
  have hl : lv_has ls 1 [(0, .ref (aM 0))] := hl
  show W p l ev ({ frames := 0, cells := 0, slots := 0, locals := 0 } : Room) s m ([.ref (aM 0)] : List Value).toArray below meth c s.heap [] 0 0 (MQ below (qI G (ty5 cI cJ cZ cO cA) A (wM cI cJ aM row tot tab goa bes tic txt par sav bwh bpr bse len res.2 ask hh ++ ([] : va_W)) res.1) ([.ref (aM 0)] : List Value).toArray s 0 0 A) (F0 m 0 ls [])
  have h := hf
  unfold f_X5_here at h
  obtain ⟨q1, hq1, h⟩ := bd_s h
  have hX1_0 : ∀ (x1 : Int32) (H : Heap) (locs : List Loc) (ls : Array Slot), x1 = q1 → va_P G vwCl (wM cI cJ aM row tot tab goa bes tic txt par sav bwh bpr bse len x1 ask hh ++ ([] : va_W)) H → va_D A (wM cI cJ aM row tot tab goa bes tic txt par sav bwh bpr bse len x1 ask hh ++ ([] : va_W)) → va_S A s.heap H locs → lv_has ls 1 [(0, .ref (aM 0))] → W p l ev ({ frames := 0, cells := 0, slots := 0, locals := 0 } : Room) s m ([.ref (aM 0)] : List Value).toArray below meth c H locs 0 0 (MQ below (qI G (ty5 cI cJ cZ cO cA) A (wM cI cJ aM row tot tab goa bes tic txt par sav bwh bpr bse len res.2 ask hh ++ ([] : va_W)) res.1) ([.ref (aM 0)] : List Value).toArray s 0 0 A) (F0 m 38 ls []) := by
    intro x1 H locs ls e1 hP hD hS hl
    replace e1 := e1.symm
    subst e1
    refine lv_aload_n hx hb dX5_here_38 rfl (lv_at hl 0 rfl) ?_
    refine va_get (D := G) (ci := 5) (v := .int q1) (C := RX5) (T := TX5) (N := 16) hx hb hts uX5 hown hK hP 0 rfl rfl 12 (by decide) (hts _ kw591) (fun _ h9 => h9) rfl dX5_here_39 ?_
    refine lv_aload_n hx hb dX5_here_42 rfl (lv_at hl 0 rfl) ?_
    refine va_get (D := G) (ci := 5) (v := .int len) (C := RX5) (T := TX5) (N := 16) hx hb hts uX5 hown hK hP 0 rfl rfl 11 (by decide) (hts _ kw590) (fun _ h9 => h9) rfl dX5_here_43 ?_
    refine lv_icmp_ge (tgt := 61) hx hb dX5_here_46 (by decide) (fun c5 => ?_) (fun c5 => ?_)
    · replace h := (if_pos c5).symm.trans h
      refine lv_iconst (v := (-1)) hx hb dX5_here_61 (by decide) ?_
      rw [← Option.some.inj h]
      exact kri hx hb hr hlk rfl rfl hP hD hS hK dX5_here_62
    · replace h := (if_neg c5).symm.trans h
      refine lv_aload_n hx hb dX5_here_49 rfl (lv_at hl 0 rfl) ?_
      refine va_get (D := G) (ci := 5) (v := .ref (aM 7)) (C := RX5) (T := TX5) (N := 16) hx hb hts uX5 hown hK hP 0 rfl rfl 10 (by decide) (hts _ kw589) (fun _ h9 => h9) rfl dX5_here_50 ?_
      refine lv_aload_n hx hb dX5_here_53 rfl (lv_at hl 0 rfl) ?_
      refine va_get (D := G) (ci := 5) (v := .int q1) (C := RX5) (T := TX5) (N := 16) hx hb hts uX5 hown hK hP 0 rfl rfl 12 (by decide) (hts _ kw591) (fun _ h9 => h9) rfl dX5_here_54 ?_
      obtain ⟨g6, h⟩ := gd_s h
      refine va_iald hx hb hK hP 7 0 rfl rfl (ib_in g6) dX5_here_57 ?_
      refine lv_goto (tgt := 62) hx hb dX5_here_58 (by decide) ?_
      rw [← Option.some.inj h]
      exact kri hx hb hr hlk rfl rfl hP hD hS hK dX5_here_62
  have hL1 : ∀ (n : Nat) (z1 : Int32) (H : Heap) (locs : List Loc) (ls : Array Slot), lp (f_X5_here_b0 txt len) n z1 = some q1 → va_P G vwCl (wM cI cJ aM row tot tab goa bes tic txt par sav bwh bpr bse len z1 ask hh ++ ([] : va_W)) H → va_D A (wM cI cJ aM row tot tab goa bes tic txt par sav bwh bpr bse len z1 ask hh ++ ([] : va_W)) → va_S A s.heap H locs → lv_has ls 1 [(0, .ref (aM 0))] → W p l ev ({ frames := 0, cells := 0, slots := 0, locals := 0 } : Room) s m ([.ref (aM 0)] : List Value).toArray below meth c H locs 0 0 (MQ below (qI G (ty5 cI cJ cZ cO cA) A (wM cI cJ aM row tot tab goa bes tic txt par sav bwh bpr bse len res.2 ask hh ++ ([] : va_W)) res.1) ([.ref (aM 0)] : List Value).toArray s 0 0 A) (F0 m 0 ls []) := by
    intro n
    induction n with
    | zero => intro z1 H locs ls h; cases h
    | succ n ih1 =>
      intro z1 H locs ls h hP hD hS hl
      obtain ⟨o1, h, h1⟩ := lp_s h
      unfold f_X5_here_b0 at h
      refine lv_aload_n hx hb dX5_here_0 rfl (lv_at hl 0 rfl) ?_
      refine va_get (D := G) (ci := 5) (v := .int z1) (C := RX5) (T := TX5) (N := 16) hx hb hts uX5 hown hK hP 0 rfl rfl 12 (by decide) (hts _ kw591) (fun _ h9 => h9) rfl dX5_here_1 ?_
      refine lv_aload_n hx hb dX5_here_4 rfl (lv_at hl 0 rfl) ?_
      refine va_get (D := G) (ci := 5) (v := .int len) (C := RX5) (T := TX5) (N := 16) hx hb hts uX5 hown hK hP 0 rfl rfl 11 (by decide) (hts _ kw590) (fun _ h9 => h9) rfl dX5_here_5 ?_
      refine lv_icmp_ge (tgt := 38) hx hb dX5_here_8 (by decide) (fun c2 => ?_) (fun c2 => ?_)
      · replace h := (if_pos c2).symm.trans h
        rw [← Option.some.inj h] at h1
        exact hX1_0 z1 _ _ _ (lp_x h1) hP hD hS (lv_sub hl [0] rfl)
      · replace h := (if_neg c2).symm.trans h
        refine lv_aload_n hx hb dX5_here_11 rfl (lv_at hl 0 rfl) ?_
        refine va_get (D := G) (ci := 5) (v := .ref (aM 7)) (C := RX5) (T := TX5) (N := 16) hx hb hts uX5 hown hK hP 0 rfl rfl 10 (by decide) (hts _ kw589) (fun _ h9 => h9) rfl dX5_here_12 ?_
        refine lv_aload_n hx hb dX5_here_15 rfl (lv_at hl 0 rfl) ?_
        refine va_get (D := G) (ci := 5) (v := .int z1) (C := RX5) (T := TX5) (N := 16) hx hb hts uX5 hown hK hP 0 rfl rfl 12 (by decide) (hts _ kw591) (fun _ h9 => h9) rfl dX5_here_16 ?_
        obtain ⟨g3, h⟩ := gd_s h
        refine va_iald hx hb hK hP 7 0 rfl rfl (ib_in g3) dX5_here_19 ?_
        refine lv_bipush (v := 32) hx hb dX5_here_20 (by decide) ?_
        refine lv_icmp_ne (tgt := 38) hx hb dX5_here_22 (by decide) (fun c4 => ?_) (fun c4 => ?_)
        · replace h := (if_neg c4).symm.trans h
          rw [← Option.some.inj h] at h1
          exact hX1_0 z1 _ _ _ (lp_x h1) hP hD hS (lv_sub hl [0] rfl)
        · replace h := (if_pos c4).symm.trans h
          refine lv_aload_n hx hb dX5_here_25 rfl (lv_at hl 0 rfl) ?_
          refine lv_dup hx hb dX5_here_26 rfl ?_
          refine va_get (D := G) (ci := 5) (v := .int z1) (C := RX5) (T := TX5) (N := 16) hx hb hts uX5 hown hK hP 0 rfl rfl 12 (by decide) (hts _ kw591) (fun _ h9 => h9) rfl dX5_here_27 ?_
          refine lv_iconst (v := 1) hx hb dX5_here_30 (by decide) ?_
          refine lv_iadd hx hb dX5_here_31 ?_
          refine va_put (D := G) (ci := 5) (ty := .int) (v := .int (z1 + 1)) (C := RX5) (T := TX5) (N := 16) hx hb hts uX5 tyX5 tyX5_ok nmX5 hown hK hP hD hS 0 rfl rfl 12 (by decide) (hts _ kw591) (fun _ h9 => h9) rfl (by decide +kernel) rfl rfl (Nat.le_of_ble_eq_true rfl) dX5_here_32 (fun H locs hP hD hS => ?_)
          have hP : va_P G vwCl (wM cI cJ aM row tot tab goa bes tic txt par sav bwh bpr bse len (z1 + 1) ask hh ++ ([] : va_W)) H := hP
          have hD : va_D A (wM cI cJ aM row tot tab goa bes tic txt par sav bwh bpr bse len (z1 + 1) ask hh ++ ([] : va_W)) := hD
          refine lv_goto (tgt := 0) hx hb dX5_here_35 (by decide) ?_
          rw [← Option.some.inj h] at h1
          exact ih1 (z1 + 1) _ _ _ (lp_b h1) hP hD hS (lv_sub hl [0] rfl)
  exact hL1 _ mat _ _ _ hq1 hP hD hS (lv_sub hl [0] rfl)

/-! X5_sign -/
def f_X5_sign_j28 (v2 : Int32) (t0 : Int32) (t1 : Int32) : Option (Int32 × Int32) :=
  gd (zb v2) (some (v2, (t1 + t0)))
def f_X5_sign_j13 (mat : Int32) (t0 : Int32) : Option (Int32 × Int32) :=
  if t0 = 0 then (f_X5_sign_j28 t0 0 mat) else (f_X5_sign_j28 t0 1 mat)
def f_X5_sign (txt : Nat → Int32) (len : Int32) (mat : Int32) (p0 : Int32) : Option (Int32 × Int32) :=
  (f_X5_here txt len mat).bind (fun q1 => if q1.1 = p0 then (f_X5_sign_j13 q1.2 1) else (f_X5_sign_j13 q1.2 0))

set_option maxHeartbeats 4000000 in
set_option maxRecDepth 100000 in
theorem c_X5_sign (l : Launch) (G : va_G) (cI cJ cZ cO cA : ClassId) (e : Nat × Nat) (aM : Nat → Nat) (sz : Nat) (row : Nat → Int32) (tot : Nat → Int64) (tab : Nat → Int64) (goa : Nat → Int64) (bes : Nat → Int64) (tic : Nat → Int64) (txt : Nat → Int32) (par : Nat → Int32) (sav : Int32) (bwh : Int64) (bpr : Int64) (bse : Int32) (len : Int32) (mat : Int32) (ask : Int32) (hh : Int64) (p0 : Int32) {res : Int32 × Int32} (hf : f_X5_sign txt len mat p0 = some res) : MetI l yX5_sign cX5_sign 3 .boolean ({ frames := 1, cells := 0, slots := 0, locals := 20 } : Room) [.ref (aM 0), .int p0] G (ty5 cI cJ cZ cO cA) e (wM cI cJ aM row tot tab goa bes tic txt par sav bwh bpr bse len mat ask hh ++ ([] : va_W)) (wM cI cJ aM row tot tab goa bes tic txt par sav bwh bpr bse len res.2 ask hh ++ ([] : va_W)) sz res.1 := by
  refine g_body (QQ := fun A => (qI G (ty5 cI cJ cZ cO cA) A (wM cI cJ aM row tot tab goa bes tic txt par sav bwh bpr bse len res.2 ask hh ++ ([] : va_W)) res.1)) (own := RX5) (by decide) rfl (Nat.le_of_ble_eq_true rfl) ?_
  intro p ev s m below meth c A ls hx hb hr hml hown hts hlk hA hP hD hS hK hE hl
  have hl : lv_has ls 3 [(0, .ref (aM 0)), (1, .int p0)] := hl
  show W p l ev ({ frames := 1, cells := 0, slots := 0, locals := 20 } : Room) s m ([.ref (aM 0), .int p0] : List Value).toArray below meth c s.heap [] 0 0 (MQ below (qI G (ty5 cI cJ cZ cO cA) A (wM cI cJ aM row tot tab goa bes tic txt par sav bwh bpr bse len res.2 ask hh ++ ([] : va_W)) res.1) ([.ref (aM 0), .int p0] : List Value).toArray s 0 0 A) (F0 m 0 ls [])
  have h := hf
  unfold f_X5_sign at h
  refine lv_aload_n hx hb dX5_sign_0 rfl (lv_at hl 0 rfl) ?_
  obtain ⟨q1, hq1, h⟩ := bd_s h
  refine kVi (n := 0) (C := RX5) (ws' := wM cI cJ aM row tot tab goa bes tic txt par sav bwh bpr bse len q1.2 ask hh ++ ([] : va_W)) (As := []) (rest := []) hx hb hml hown hts (c_X5_here l G cI cJ cZ cO cA e aM _ row tot tab goa bes tic txt par sav bwh bpr bse len mat ask hh hq1) (tb_V kw896 kw898 kv41 kw7 kw899) rfl rfl (by decide +kernel) ⟨Nat.le_of_ble_eq_true rfl, Nat.le_of_ble_eq_true rfl⟩ hK hP hD hS hA hE 0 rfl rfl [0, 1, 2, 3, 4, 5, 6, 7, 8] [] rfl rfl rfl 9 ⟨rfl, rfl⟩ (by decide +kernel) (by decide +kernel) rfl rfl hl.1 (Nat.le_of_ble_eq_true rfl) ⟨Nat.zero_le _, Nat.zero_le _⟩ dX5_sign_1 (fun H locs hP hD hS => ?_)
  refine lv_iload_n hx hb dX5_sign_4 rfl (lv_at hl 1 rfl) ?_
  have hJ3 : ∀ (mat_3 : Int32) (t0_3 : Int32) (H : Heap) (locs : List Loc) (ls : Array Slot), f_X5_sign_j13 mat_3 t0_3 = some res → va_P G vwCl (wM cI cJ aM row tot tab goa bes tic txt par sav bwh bpr bse len mat_3 ask hh ++ ([] : va_W)) H → va_D A (wM cI cJ aM row tot tab goa bes tic txt par sav bwh bpr bse len mat_3 ask hh ++ ([] : va_W)) → va_S A s.heap H locs → lv_has ls 3 [(0, .ref (aM 0))] → W p l ev ({ frames := 1, cells := 0, slots := 0, locals := 20 } : Room) s m ([.ref (aM 0), .int p0] : List Value).toArray below meth c H locs 0 0 (MQ below (qI G (ty5 cI cJ cZ cO cA) A (wM cI cJ aM row tot tab goa bes tic txt par sav bwh bpr bse len res.2 ask hh ++ ([] : va_W)) res.1) ([.ref (aM 0), .int p0] : List Value).toArray s 0 0 A) (F0 m 13 ls [.int t0_3]) := by
    intro mat_3 t0_3 H locs ls h hP hD hS hl
    unfold f_X5_sign_j13 at h
    refine lv_istore_n (lv' := [(2, .int t0_3), (0, .ref (aM 0))]) hx hb dX5_sign_13 rfl hl (by decide) rfl (fun ls hl => ?_)
    refine lv_aload_n hx hb dX5_sign_14 rfl (lv_at hl 1 rfl) ?_
    refine lv_dup hx hb dX5_sign_15 rfl ?_
    refine va_get (D := G) (ci := 5) (v := .int mat_3) (C := RX5) (T := TX5) (N := 16) hx hb hts uX5 hown hK hP 0 rfl rfl 12 (by decide) (hts _ kw591) (fun _ h9 => h9) rfl dX5_sign_16 ?_
    refine lv_iload_n hx hb dX5_sign_19 rfl (lv_at hl 0 rfl) ?_
    have hJ5 : ∀ (mat_5 : Int32) (v2_5 : Int32) (t0_5 : Int32) (t1_5 : Int32) (H : Heap) (locs : List Loc) (ls : Array Slot), f_X5_sign_j28 v2_5 t0_5 t1_5 = some res → va_P G vwCl (wM cI cJ aM row tot tab goa bes tic txt par sav bwh bpr bse len mat_5 ask hh ++ ([] : va_W)) H → va_D A (wM cI cJ aM row tot tab goa bes tic txt par sav bwh bpr bse len mat_5 ask hh ++ ([] : va_W)) → va_S A s.heap H locs → lv_has ls 3 [(2, .int v2_5)] → W p l ev ({ frames := 1, cells := 0, slots := 0, locals := 20 } : Room) s m ([.ref (aM 0), .int p0] : List Value).toArray below meth c H locs 0 0 (MQ below (qI G (ty5 cI cJ cZ cO cA) A (wM cI cJ aM row tot tab goa bes tic txt par sav bwh bpr bse len res.2 ask hh ++ ([] : va_W)) res.1) ([.ref (aM 0), .int p0] : List Value).toArray s 0 0 A) (F0 m 28 ls [.int t0_5, .int t1_5, .ref (aM 0)]) := by
      intro mat_5 v2_5 t0_5 t1_5 H locs ls h hP hD hS hl
      unfold f_X5_sign_j28 at h
      refine lv_iadd hx hb dX5_sign_28 ?_
      refine va_put (D := G) (ci := 5) (ty := .int) (v := .int (t1_5 + t0_5)) (C := RX5) (T := TX5) (N := 16) hx hb hts uX5 tyX5 tyX5_ok nmX5 hown hK hP hD hS 0 rfl rfl 12 (by decide) (hts _ kw591) (fun _ h9 => h9) rfl (by decide +kernel) rfl rfl (Nat.le_of_ble_eq_true rfl) dX5_sign_29 (fun H locs hP hD hS => ?_)
      have hP : va_P G vwCl (wM cI cJ aM row tot tab goa bes tic txt par sav bwh bpr bse len (t1_5 + t0_5) ask hh ++ ([] : va_W)) H := hP
      have hD : va_D A (wM cI cJ aM row tot tab goa bes tic txt par sav bwh bpr bse len (t1_5 + t0_5) ask hh ++ ([] : va_W)) := hD
      refine lv_iload_n hx hb dX5_sign_32 rfl (lv_at hl 0 rfl) ?_
      obtain ⟨g6, h⟩ := gd_s h
      rw [← Option.some.inj h]
      exact kri hx hb hr hlk (zb_s g6) rfl hP hD hS hK dX5_sign_33
    refine lv_if_eq (tgt := 27) hx hb dX5_sign_20 (by decide) (fun c4 => ?_) (fun c4 => ?_)
    · replace h := (if_pos c4).symm.trans h
      refine lv_iconst (v := 0) hx hb dX5_sign_27 (by decide) ?_
      exact hJ5 mat_3 t0_3 0 mat_3 _ _ _ h hP hD hS (lv_sub hl [0] rfl)
    · replace h := (if_neg c4).symm.trans h
      refine lv_iconst (v := 1) hx hb dX5_sign_23 (by decide) ?_
      refine lv_goto (tgt := 28) hx hb dX5_sign_24 (by decide) ?_
      exact hJ5 mat_3 t0_3 1 mat_3 _ _ _ h hP hD hS (lv_sub hl [0] rfl)
  refine lv_icmp_ne (tgt := 12) hx hb dX5_sign_5 (by decide) (fun c2 => ?_) (fun c2 => ?_)
  · replace h := (if_neg c2).symm.trans h
    refine lv_iconst (v := 0) hx hb dX5_sign_12 (by decide) ?_
    exact hJ3 q1.2 0 _ _ _ h hP hD hS (lv_sub hl [0] rfl)
  · replace h := (if_pos c2).symm.trans h
    refine lv_iconst (v := 1) hx hb dX5_sign_8 (by decide) ?_
    refine lv_goto (tgt := 13) hx hb dX5_sign_9 (by decide) ?_
    exact hJ3 q1.2 1 _ _ _ h hP hD hS (lv_sub hl [0] rfl)

/-! X5_readsPart -/
def f_X5_readsPart_j83 (v4 : Int32) (t0 : Int32) : Option ((Int32 × Int32) ⊕ (Int32 × Int32)) :=
  some (Sum.inl ((v4 + 1), t0))
def f_X5_readsPart_b21 (txt : Nat → Int32) (len : Int32) (mat : Int32) (v3 : Int32) (z3 : Int32 × Int32) : Option ((Int32 × Int32) ⊕ (Int32 × Int32)) :=
  if v3 < 0 then (some (Sum.inr (z3.1, z3.2))) else (if len ≤ z3.1 then (some (Sum.inr (z3.1, z3.2))) else (gd (ib z3.1 100) ((f_X5_in (txt z3.1.toNatClampNeg) 48 57).bind (fun q7 => if q7 = 0 then (some (Sum.inr (z3.1, z3.2))) else (if 5 ≤ (z3.1 - mat) then (f_X5_readsPart_j83 z3.1 z3.2) else (gd (ib z3.1 100) (f_X5_readsPart_j83 z3.1 (((10 * z3.2) + (txt z3.1.toNatClampNeg)) - 48))))))))
def f_X5_readsPart_j144 (par : Nat → Int32) (mat : Int32) (t0 : Int32) (t1 : Int32) : Option (Int32 × (Nat → Int32) × Int32) :=
  gd (ib t1 3) (some (1, (upd par t1.toNatClampNeg t0), mat))
def f_X5_readsPart (txt : Nat → Int32) (len : Int32) (par : Nat → Int32) (mat : Int32) (p0 : Int32) : Option (Int32 × (Nat → Int32) × Int32) :=
  (f_X5_sign txt len mat 45).bind (fun q1 => (f_X5_here txt len q1.2).bind (fun q2 => (lp (f_X5_readsPart_b21 txt len q2.2 q2.1) 1000 (q2.2, 0)).bind (fun q3 => if q3.1 = q2.2 then (some (0, par, q2.2)) else (if 4 < (q3.1 - q2.2) then (some (0, par, q2.2)) else (if q3.2 ≤ 2000 then (if q1.1 = 0 then (f_X5_readsPart_j144 par q3.1 q3.2 p0) else (f_X5_readsPart_j144 par q3.1 (-q3.2) p0)) else (some (0, par, q2.2)))))))

set_option maxHeartbeats 4000000 in
set_option maxRecDepth 100000 in
theorem c_X5_readsPart (l : Launch) (G : va_G) (cI cJ cZ cO cA : ClassId) (e : Nat × Nat) (aM : Nat → Nat) (sz : Nat) (row : Nat → Int32) (tot : Nat → Int64) (tab : Nat → Int64) (goa : Nat → Int64) (bes : Nat → Int64) (tic : Nat → Int64) (txt : Nat → Int32) (par : Nat → Int32) (sav : Int32) (bwh : Int64) (bpr : Int64) (bse : Int32) (len : Int32) (mat : Int32) (ask : Int32) (hh : Int64) (p0 : Int32) {res : Int32 × (Nat → Int32) × Int32} (hf : f_X5_readsPart txt len par mat p0 = some res) : MetI l yX5_readsPart cX5_readsPart 6 .boolean ({ frames := 2, cells := 0, slots := 0, locals := 42 } : Room) [.ref (aM 0), .int p0] G (ty5 cI cJ cZ cO cA) e (wM cI cJ aM row tot tab goa bes tic txt par sav bwh bpr bse len mat ask hh ++ ([] : va_W)) (wM cI cJ aM row tot tab goa bes tic txt res.2.1 sav bwh bpr bse len res.2.2 ask hh ++ ([] : va_W)) sz res.1 := by
  refine g_body (QQ := fun A => (qI G (ty5 cI cJ cZ cO cA) A (wM cI cJ aM row tot tab goa bes tic txt res.2.1 sav bwh bpr bse len res.2.2 ask hh ++ ([] : va_W)) res.1)) (own := RX5) (by decide) rfl (Nat.le_of_ble_eq_true rfl) ?_
  intro p ev s m below meth c A ls hx hb hr hml hown hts hlk hA hP hD hS hK hE hl
  have hl : lv_has ls 6 [(0, .ref (aM 0)), (1, .int p0)] := hl
  show W p l ev ({ frames := 2, cells := 0, slots := 0, locals := 42 } : Room) s m ([.ref (aM 0), .int p0] : List Value).toArray below meth c s.heap [] 0 0 (MQ below (qI G (ty5 cI cJ cZ cO cA) A (wM cI cJ aM row tot tab goa bes tic txt res.2.1 sav bwh bpr bse len res.2.2 ask hh ++ ([] : va_W)) res.1) ([.ref (aM 0), .int p0] : List Value).toArray s 0 0 A) (F0 m 0 ls [])
  have h := hf
  unfold f_X5_readsPart at h
  refine lv_aload_n hx hb dX5_readsPart_0 rfl (lv_at hl 0 rfl) ?_
  refine lv_bipush (v := 45) hx hb dX5_readsPart_1 (by decide) ?_
  obtain ⟨q1, hq1, h⟩ := bd_s h
  refine kVi (n := 1) (C := RX5) (ws' := wM cI cJ aM row tot tab goa bes tic txt par sav bwh bpr bse len q1.2 ask hh ++ ([] : va_W)) (As := [.int 45]) (rest := []) hx hb hml hown hts (c_X5_sign l G cI cJ cZ cO cA e aM _ row tot tab goa bes tic txt par sav bwh bpr bse len mat ask hh 45 hq1) (tb_V kw900 kw902 kv42 kw7 kw903) rfl rfl (by decide +kernel) ⟨Nat.le_of_ble_eq_true rfl, Nat.le_of_ble_eq_true rfl⟩ hK hP hD hS hA hE 0 rfl rfl [0, 1, 2, 3, 4, 5, 6, 7, 8] [] rfl rfl rfl 9 ⟨rfl, rfl⟩ (by decide +kernel) (by decide +kernel) rfl rfl hl.1 (Nat.le_of_ble_eq_true rfl) ⟨Nat.zero_le _, Nat.zero_le _⟩ dX5_readsPart_3 (fun H locs hP hD hS => ?_)
  refine lv_istore_n (lv' := [(2, .int q1.1), (0, .ref (aM 0)), (1, .int p0)]) hx hb dX5_readsPart_6 rfl hl (by decide) rfl (fun ls hl => ?_)
  refine lv_aload_n hx hb dX5_readsPart_7 rfl (lv_at hl 1 rfl) ?_
  obtain ⟨q2, hq2, h⟩ := bd_s h
  refine kVi (n := 0) (C := RX5) (ws' := wM cI cJ aM row tot tab goa bes tic txt par sav bwh bpr bse len q2.2 ask hh ++ ([] : va_W)) (As := []) (rest := []) hx hb hml hown hts (c_X5_here l G cI cJ cZ cO cA e aM _ row tot tab goa bes tic txt par sav bwh bpr bse len q1.2 ask hh hq2) (tb_V kw896 kw898 kv41 kw7 kw899) rfl rfl (by decide +kernel) ⟨Nat.le_of_ble_eq_true rfl, Nat.le_of_ble_eq_true rfl⟩ hK hP hD hS hA hE 0 rfl rfl [0, 1, 2, 3, 4, 5, 6, 7, 8] [] rfl rfl rfl 9 ⟨rfl, rfl⟩ (by decide +kernel) (by decide +kernel) rfl rfl hl.1 (Nat.le_of_ble_eq_true rfl) ⟨Nat.zero_le _, Nat.zero_le _⟩ dX5_readsPart_8 (fun H locs hP hD hS => ?_)
  refine lv_istore_n (lv' := [(3, .int q2.1), (2, .int q1.1), (0, .ref (aM 0)), (1, .int p0)]) hx hb dX5_readsPart_11 rfl hl (by decide) rfl (fun ls hl => ?_)
  refine lv_aload_n hx hb dX5_readsPart_12 rfl (lv_at hl 2 rfl) ?_
  refine va_get (D := G) (ci := 5) (v := .int q2.2) (C := RX5) (T := TX5) (N := 16) hx hb hts uX5 hown hK hP 0 rfl rfl 12 (by decide) (hts _ kw591) (fun _ h9 => h9) rfl dX5_readsPart_13 ?_
  refine lv_istore (lv' := [(4, .int q2.2), (3, .int q2.1), (2, .int q1.1), (0, .ref (aM 0)), (1, .int p0)]) hx hb dX5_readsPart_16 hl (by decide) rfl (fun ls hl => ?_)
  refine lv_iconst (v := 0) hx hb dX5_readsPart_18 (by decide) ?_
  refine lv_istore (lv' := [(5, .int 0), (4, .int q2.2), (3, .int q2.1), (2, .int q1.1), (0, .ref (aM 0)), (1, .int p0)]) hx hb dX5_readsPart_19 hl (by decide) rfl (fun ls hl => ?_)
  obtain ⟨q3, hq3, h⟩ := bd_s h
  have hX3_0 : ∀ (x3 : Int32 × Int32) (H : Heap) (locs : List Loc) (ls : Array Slot), x3 = q3 → va_P G vwCl (wM cI cJ aM row tot tab goa bes tic txt par sav bwh bpr bse len q2.2 ask hh ++ ([] : va_W)) H → va_D A (wM cI cJ aM row tot tab goa bes tic txt par sav bwh bpr bse len q2.2 ask hh ++ ([] : va_W)) → va_S A s.heap H locs → lv_has ls 6 [(0, .ref (aM 0)), (1, .int p0), (2, .int q1.1), (4, .int x3.1), (5, .int x3.2)] → W p l ev ({ frames := 2, cells := 0, slots := 0, locals := 42 } : Room) s m ([.ref (aM 0), .int p0] : List Value).toArray below meth c H locs 0 0 (MQ below (qI G (ty5 cI cJ cZ cO cA) A (wM cI cJ aM row tot tab goa bes tic txt res.2.1 sav bwh bpr bse len res.2.2 ask hh ++ ([] : va_W)) res.1) ([.ref (aM 0), .int p0] : List Value).toArray s 0 0 A) (F0 m 91 ls []) := by
    intro x3 H locs ls e3 hP hD hS hl
    replace e3 := e3.symm
    subst e3
    refine lv_iload hx hb dX5_readsPart_91 (lv_at hl 3 rfl) ?_
    refine lv_aload_n hx hb dX5_readsPart_93 rfl (lv_at hl 0 rfl) ?_
    refine va_get (D := G) (ci := 5) (v := .int q2.2) (C := RX5) (T := TX5) (N := 16) hx hb hts uX5 hown hK hP 0 rfl rfl 12 (by decide) (hts _ kw591) (fun _ h9 => h9) rfl dX5_readsPart_94 ?_
    refine lv_icmp_eq (tgt := 119) hx hb dX5_readsPart_97 (by decide) (fun c12 => ?_) (fun c12 => ?_)
    · replace h := (if_pos c12).symm.trans h
      refine lv_iconst (v := 0) hx hb dX5_readsPart_119 (by decide) ?_
      rw [← Option.some.inj h]
      exact kri hx hb hr hlk rfl rfl hP hD hS hK dX5_readsPart_120
    · replace h := (if_neg c12).symm.trans h
      refine lv_iload hx hb dX5_readsPart_100 (lv_at hl 3 rfl) ?_
      refine lv_aload_n hx hb dX5_readsPart_102 rfl (lv_at hl 0 rfl) ?_
      refine va_get (D := G) (ci := 5) (v := .int q2.2) (C := RX5) (T := TX5) (N := 16) hx hb hts uX5 hown hK hP 0 rfl rfl 12 (by decide) (hts _ kw591) (fun _ h9 => h9) rfl dX5_readsPart_103 ?_
      refine lv_isub hx hb dX5_readsPart_106 ?_
      refine lv_iconst (v := 4) hx hb dX5_readsPart_107 (by decide) ?_
      refine lv_icmp_gt (tgt := 119) hx hb dX5_readsPart_108 (by decide) (fun c13 => ?_) (fun c13 => ?_)
      · replace h := (if_pos c13).symm.trans h
        refine lv_iconst (v := 0) hx hb dX5_readsPart_119 (by decide) ?_
        rw [← Option.some.inj h]
        exact kri hx hb hr hlk rfl rfl hP hD hS hK dX5_readsPart_120
      · replace h := (if_neg c13).symm.trans h
        refine lv_iload hx hb dX5_readsPart_111 (lv_at hl 4 rfl) ?_
        refine lv_sipush (v := 2000) hx hb dX5_readsPart_113 (by decide) ?_
        refine lv_icmp_le (tgt := 121) hx hb dX5_readsPart_116 (by decide) (fun c14 => ?_) (fun c14 => ?_)
        · replace h := (if_pos c14).symm.trans h
          refine lv_aload_n hx hb dX5_readsPart_121 rfl (lv_at hl 0 rfl) ?_
          refine lv_iload hx hb dX5_readsPart_122 (lv_at hl 3 rfl) ?_
          refine va_put (D := G) (ci := 5) (ty := .int) (v := .int q3.1) (C := RX5) (T := TX5) (N := 16) hx hb hts uX5 tyX5 tyX5_ok nmX5 hown hK hP hD hS 0 rfl rfl 12 (by decide) (hts _ kw591) (fun _ h9 => h9) rfl (by decide +kernel) rfl rfl (Nat.le_of_ble_eq_true rfl) dX5_readsPart_124 (fun H locs hP hD hS => ?_)
          have hP : va_P G vwCl (wM cI cJ aM row tot tab goa bes tic txt par sav bwh bpr bse len q3.1 ask hh ++ ([] : va_W)) H := hP
          have hD : va_D A (wM cI cJ aM row tot tab goa bes tic txt par sav bwh bpr bse len q3.1 ask hh ++ ([] : va_W)) := hD
          refine lv_aload_n hx hb dX5_readsPart_127 rfl (lv_at hl 0 rfl) ?_
          refine va_get (D := G) (ci := 5) (v := .ref (aM 8)) (C := RX5) (T := TX5) (N := 16) hx hb hts uX5 hown hK hP 0 rfl rfl 13 (by decide) (hts _ kw592) (fun _ h9 => h9) rfl dX5_readsPart_128 ?_
          refine lv_iload_n hx hb dX5_readsPart_131 rfl (lv_at hl 1 rfl) ?_
          refine lv_iload_n hx hb dX5_readsPart_132 rfl (lv_at hl 2 rfl) ?_
          have hJ16 : ∀ (par_16 : Nat → Int32) (mat_16 : Int32) (t0_16 : Int32) (t1_16 : Int32) (H : Heap) (locs : List Loc) (ls : Array Slot), f_X5_readsPart_j144 par_16 mat_16 t0_16 t1_16 = some res → va_P G vwCl (wM cI cJ aM row tot tab goa bes tic txt par_16 sav bwh bpr bse len mat_16 ask hh ++ ([] : va_W)) H → va_D A (wM cI cJ aM row tot tab goa bes tic txt par_16 sav bwh bpr bse len mat_16 ask hh ++ ([] : va_W)) → va_S A s.heap H locs → lv_has ls 6 [] → W p l ev ({ frames := 2, cells := 0, slots := 0, locals := 42 } : Room) s m ([.ref (aM 0), .int p0] : List Value).toArray below meth c H locs 0 0 (MQ below (qI G (ty5 cI cJ cZ cO cA) A (wM cI cJ aM row tot tab goa bes tic txt res.2.1 sav bwh bpr bse len res.2.2 ask hh ++ ([] : va_W)) res.1) ([.ref (aM 0), .int p0] : List Value).toArray s 0 0 A) (F0 m 144 ls [.int t0_16, .int t1_16, .ref (aM 8)]) := by
            intro par_16 mat_16 t0_16 t1_16 H locs ls h hP hD hS hl
            unfold f_X5_readsPart_j144 at h
            obtain ⟨g17, h⟩ := gd_s h
            refine va_iast hx hb hK hP hD hS 8 0 rfl rfl (ib_in g17) dX5_readsPart_144 (fun H locs hP hD hS => ?_)
            have hP : va_P G vwCl (wM cI cJ aM row tot tab goa bes tic txt (upd par_16 t1_16.toNatClampNeg t0_16) sav bwh bpr bse len mat_16 ask hh ++ ([] : va_W)) H := hP
            have hD : va_D A (wM cI cJ aM row tot tab goa bes tic txt (upd par_16 t1_16.toNatClampNeg t0_16) sav bwh bpr bse len mat_16 ask hh ++ ([] : va_W)) := hD
            refine lv_iconst (v := 1) hx hb dX5_readsPart_145 (by decide) ?_
            rw [← Option.some.inj h]
            exact kri hx hb hr hlk rfl rfl hP hD hS hK dX5_readsPart_146
          refine lv_if_eq (tgt := 142) hx hb dX5_readsPart_133 (by decide) (fun c15 => ?_) (fun c15 => ?_)
          · replace h := (if_pos c15).symm.trans h
            refine lv_iload hx hb dX5_readsPart_142 (lv_at hl 4 rfl) ?_
            exact hJ16 par q3.1 q3.2 p0 _ _ _ h hP hD hS (lv_sub hl [] rfl)
          · replace h := (if_neg c15).symm.trans h
            refine lv_iload hx hb dX5_readsPart_136 (lv_at hl 4 rfl) ?_
            refine lv_ineg hx hb dX5_readsPart_138 ?_
            refine lv_goto (tgt := 144) hx hb dX5_readsPart_139 (by decide) ?_
            exact hJ16 par q3.1 (-q3.2) p0 _ _ _ h hP hD hS (lv_sub hl [] rfl)
        · replace h := (if_neg c14).symm.trans h
          refine lv_iconst (v := 0) hx hb dX5_readsPart_119 (by decide) ?_
          rw [← Option.some.inj h]
          exact kri hx hb hr hlk rfl rfl hP hD hS hK dX5_readsPart_120
  have hL3 : ∀ (n : Nat) (z3 : Int32 × Int32) (H : Heap) (locs : List Loc) (ls : Array Slot), lp (f_X5_readsPart_b21 txt len q2.2 q2.1) n z3 = some q3 → va_P G vwCl (wM cI cJ aM row tot tab goa bes tic txt par sav bwh bpr bse len q2.2 ask hh ++ ([] : va_W)) H → va_D A (wM cI cJ aM row tot tab goa bes tic txt par sav bwh bpr bse len q2.2 ask hh ++ ([] : va_W)) → va_S A s.heap H locs → lv_has ls 6 [(0, .ref (aM 0)), (1, .int p0), (2, .int q1.1), (3, .int q2.1), (4, .int z3.1), (5, .int z3.2)] → W p l ev ({ frames := 2, cells := 0, slots := 0, locals := 42 } : Room) s m ([.ref (aM 0), .int p0] : List Value).toArray below meth c H locs 0 0 (MQ below (qI G (ty5 cI cJ cZ cO cA) A (wM cI cJ aM row tot tab goa bes tic txt res.2.1 sav bwh bpr bse len res.2.2 ask hh ++ ([] : va_W)) res.1) ([.ref (aM 0), .int p0] : List Value).toArray s 0 0 A) (F0 m 21 ls []) := by
    intro n
    induction n with
    | zero => intro z3 H locs ls h; cases h
    | succ n ih3 =>
      intro z3 H locs ls h hP hD hS hl
      obtain ⟨o3, h, h3⟩ := lp_s h
      unfold f_X5_readsPart_b21 at h
      refine lv_iload_n hx hb dX5_readsPart_21 rfl (lv_at hl 3 rfl) ?_
      refine lv_if_lt (tgt := 91) hx hb dX5_readsPart_22 (by decide) (fun c4 => ?_) (fun c4 => ?_)
      · replace h := (if_pos c4).symm.trans h
        rw [← Option.some.inj h] at h3
        exact hX3_0 (z3.1, z3.2) _ _ _ (lp_x h3) hP hD hS (lv_sub hl [0, 1, 2, 4, 5] rfl)
      · replace h := (if_neg c4).symm.trans h
        refine lv_iload hx hb dX5_readsPart_25 (lv_at hl 4 rfl) ?_
        refine lv_aload_n hx hb dX5_readsPart_27 rfl (lv_at hl 0 rfl) ?_
        refine va_get (D := G) (ci := 5) (v := .int len) (C := RX5) (T := TX5) (N := 16) hx hb hts uX5 hown hK hP 0 rfl rfl 11 (by decide) (hts _ kw590) (fun _ h9 => h9) rfl dX5_readsPart_28 ?_
        refine lv_icmp_ge (tgt := 91) hx hb dX5_readsPart_31 (by decide) (fun c5 => ?_) (fun c5 => ?_)
        · replace h := (if_pos c5).symm.trans h
          rw [← Option.some.inj h] at h3
          exact hX3_0 (z3.1, z3.2) _ _ _ (lp_x h3) hP hD hS (lv_sub hl [0, 1, 2, 4, 5] rfl)
        · replace h := (if_neg c5).symm.trans h
          refine lv_aload_n hx hb dX5_readsPart_34 rfl (lv_at hl 0 rfl) ?_
          refine va_get (D := G) (ci := 5) (v := .ref (aM 7)) (C := RX5) (T := TX5) (N := 16) hx hb hts uX5 hown hK hP 0 rfl rfl 10 (by decide) (hts _ kw589) (fun _ h9 => h9) rfl dX5_readsPart_35 ?_
          refine lv_iload hx hb dX5_readsPart_38 (lv_at hl 4 rfl) ?_
          obtain ⟨g6, h⟩ := gd_s h
          refine va_iald hx hb hK hP 7 0 rfl rfl (ib_in g6) dX5_readsPart_40 ?_
          refine lv_bipush (v := 48) hx hb dX5_readsPart_41 (by decide) ?_
          refine lv_bipush (v := 57) hx hb dX5_readsPart_43 (by decide) ?_
          obtain ⟨q7, hq7, h⟩ := bd_s h
          refine kSi (n := 3) (As := [.int (txt z3.1.toNatClampNeg), .int 48, .int 57]) (rest := []) hx hb hml hown hts (c_X5_in l G cI cJ cZ cO cA e _ (txt z3.1.toNatClampNeg) 48 57 hq7) (tb_S kw635 kw636 kw7 kw637) rfl rfl (by decide +kernel) ⟨Nat.le_of_ble_eq_true rfl, Nat.le_of_ble_eq_true rfl⟩ hK hP hD hS hA hE rfl rfl hl.1 (Nat.le_of_ble_eq_true rfl) ⟨Nat.zero_le _, Nat.zero_le _⟩ dX5_readsPart_45 (fun H locs hP hD hS => ?_)
          refine lv_if_eq (tgt := 91) hx hb dX5_readsPart_48 (by decide) (fun c8 => ?_) (fun c8 => ?_)
          · replace h := (if_pos c8).symm.trans h
            rw [← Option.some.inj h] at h3
            exact hX3_0 (z3.1, z3.2) _ _ _ (lp_x h3) hP hD hS (lv_sub hl [0, 1, 2, 4, 5] rfl)
          · replace h := (if_neg c8).symm.trans h
            refine lv_iload hx hb dX5_readsPart_51 (lv_at hl 4 rfl) ?_
            refine lv_aload_n hx hb dX5_readsPart_53 rfl (lv_at hl 0 rfl) ?_
            refine va_get (D := G) (ci := 5) (v := .int q2.2) (C := RX5) (T := TX5) (N := 16) hx hb hts uX5 hown hK hP 0 rfl rfl 12 (by decide) (hts _ kw591) (fun _ h9 => h9) rfl dX5_readsPart_54 ?_
            refine lv_isub hx hb dX5_readsPart_57 ?_
            refine lv_iconst (v := 5) hx hb dX5_readsPart_58 (by decide) ?_
            have hJ10 : ∀ (v4_10 : Int32) (t0_10 : Int32) (H : Heap) (locs : List Loc) (ls : Array Slot), f_X5_readsPart_j83 v4_10 t0_10 = some o3 → va_P G vwCl (wM cI cJ aM row tot tab goa bes tic txt par sav bwh bpr bse len q2.2 ask hh ++ ([] : va_W)) H → va_D A (wM cI cJ aM row tot tab goa bes tic txt par sav bwh bpr bse len q2.2 ask hh ++ ([] : va_W)) → va_S A s.heap H locs → lv_has ls 6 [(0, .ref (aM 0)), (1, .int p0), (2, .int q1.1), (3, .int q2.1), (4, .int v4_10)] → W p l ev ({ frames := 2, cells := 0, slots := 0, locals := 42 } : Room) s m ([.ref (aM 0), .int p0] : List Value).toArray below meth c H locs 0 0 (MQ below (qI G (ty5 cI cJ cZ cO cA) A (wM cI cJ aM row tot tab goa bes tic txt res.2.1 sav bwh bpr bse len res.2.2 ask hh ++ ([] : va_W)) res.1) ([.ref (aM 0), .int p0] : List Value).toArray s 0 0 A) (F0 m 83 ls [.int t0_10]) := by
              intro v4_10 t0_10 H locs ls h hP hD hS hl
              unfold f_X5_readsPart_j83 at h
              refine lv_istore (lv' := [(5, .int t0_10), (0, .ref (aM 0)), (1, .int p0), (2, .int q1.1), (3, .int q2.1), (4, .int v4_10)]) hx hb dX5_readsPart_83 hl (by decide) rfl (fun ls hl => ?_)
              refine lv_iinc (v := (v4_10 + 1)) (lv' := [(4, .int (v4_10 + 1)), (5, .int t0_10), (0, .ref (aM 0)), (1, .int p0), (2, .int q1.1), (3, .int q2.1)]) hx hb dX5_readsPart_85 hl (k := 5) rfl rfl (by decide) rfl (fun ls hl => ?_)
              refine lv_goto (tgt := 21) hx hb dX5_readsPart_88 (by decide) ?_
              rw [← Option.some.inj h] at h3
              exact ih3 ((v4_10 + 1), t0_10) _ _ _ (lp_b h3) hP hD hS (lv_sub hl [2, 3, 4, 5, 0, 1] rfl)
            refine lv_icmp_ge (tgt := 81) hx hb dX5_readsPart_59 (by decide) (fun c9 => ?_) (fun c9 => ?_)
            · replace h := (if_pos c9).symm.trans h
              refine lv_iload hx hb dX5_readsPart_81 (lv_at hl 5 rfl) ?_
              exact hJ10 z3.1 z3.2 _ _ _ h hP hD hS (lv_sub hl [0, 1, 2, 3, 4] rfl)
            · replace h := (if_neg c9).symm.trans h
              refine lv_bipush (v := 10) hx hb dX5_readsPart_62 (by decide) ?_
              refine lv_iload hx hb dX5_readsPart_64 (lv_at hl 5 rfl) ?_
              refine lv_imul hx hb dX5_readsPart_66 ?_
              refine lv_aload_n hx hb dX5_readsPart_67 rfl (lv_at hl 0 rfl) ?_
              refine va_get (D := G) (ci := 5) (v := .ref (aM 7)) (C := RX5) (T := TX5) (N := 16) hx hb hts uX5 hown hK hP 0 rfl rfl 10 (by decide) (hts _ kw589) (fun _ h9 => h9) rfl dX5_readsPart_68 ?_
              refine lv_iload hx hb dX5_readsPart_71 (lv_at hl 4 rfl) ?_
              obtain ⟨g11, h⟩ := gd_s h
              refine va_iald hx hb hK hP 7 0 rfl rfl (ib_in g11) dX5_readsPart_73 ?_
              refine lv_iadd hx hb dX5_readsPart_74 ?_
              refine lv_bipush (v := 48) hx hb dX5_readsPart_75 (by decide) ?_
              refine lv_isub hx hb dX5_readsPart_77 ?_
              refine lv_goto (tgt := 83) hx hb dX5_readsPart_78 (by decide) ?_
              exact hJ10 z3.1 (((10 * z3.2) + (txt z3.1.toNatClampNeg)) - 48) _ _ _ h hP hD hS (lv_sub hl [0, 1, 2, 3, 4] rfl)
  exact hL3 _ (q2.2, 0) _ _ _ hq3 hP hD hS (lv_sub hl [4, 5, 3, 2, 1, 0] rfl)

/-! X5_readsRequest -/
def f_X5_readsRequest_j51 (txt : Nat → Int32) (par : Nat → Int32) (len : Int32) (mat : Int32) (v4 : Int32) : Option (((Nat → Int32) × Int32 × Int32) ⊕ (((Nat → Int32) × Int32) ⊕ ((Nat → Int32) × Int32))) :=
  (f_X5_readsPart txt len par mat v4).bind (fun q9 => if q9.1 = 0 then (some (Sum.inr (Sum.inl (q9.2.1, q9.2.2)))) else (some (Sum.inl (q9.2.1, q9.2.2, (v4 + 1)))))
def f_X5_readsRequest_b31 (txt : Nat → Int32) (len : Int32) (z5 : (Nat → Int32) × Int32 × Int32) : Option (((Nat → Int32) × Int32 × Int32) ⊕ (((Nat → Int32) × Int32) ⊕ ((Nat → Int32) × Int32))) :=
  if 3 ≤ z5.2.2 then (some (Sum.inr (Sum.inr (z5.1, z5.2.1)))) else (if z5.2.2 ≤ 0 then (f_X5_readsRequest_j51 txt z5.1 len z5.2.1 z5.2.2) else ((f_X5_sign txt len z5.2.1 44).bind (fun q11 => if q11.1 = 0 then (some (Sum.inr (Sum.inl (z5.1, q11.2)))) else (f_X5_readsRequest_j51 txt z5.1 len q11.2 z5.2.2))))
def f_X5_readsRequest_j98 (row : Nat → Int32) (par : Nat → Int32) (mat : Int32) (ask : Int32) (t0 : Int32) : Option (Int32 × (Nat → Int32) × (Nat → Int32) × Int32 × Int32) :=
  gd (ib 0 3) (gd (ib 1 3) (gd (ib 2 3) ((f_X5_puts row t0 (par (0 : Int32).toNatClampNeg) (par (1 : Int32).toNatClampNeg) (par (2 : Int32).toNatClampNeg)).bind (fun q19 => some (1, q19, par, mat, ask)))))
def f_X5_readsRequest (txt : Nat → Int32) (len : Int32) (row : Nat → Int32) (par : Nat → Int32) (mat : Int32) (ask : Int32) (p0 : Int32) : Option (Int32 × (Nat → Int32) × (Nat → Int32) × Int32 × Int32) :=
  (f_X5_here txt len mat).bind (fun q1 => if q1.1 = (-1) then (some (0, row, par, q1.2, ask)) else (if ask = 10 then (some (0, row, par, q1.2, ask)) else ((f_X5_sign txt len q1.2 33).bind (fun q4 => (lp (f_X5_readsRequest_b31 txt len) 1000 (par, q4.2, 0)).bind (fun q5 => Sum.elim (fun t5 => some (0, row, t5.1, t5.2, ask)) (fun t5 => if p0 = 0 then (some (1, row, t5.1, t5.2, (ask + 1))) else (if q4.1 = 0 then (gd (ib 68 708) (f_X5_readsRequest_j98 row t5.1 t5.2 (ask + 1) (row (68 : Int32).toNatClampNeg))) else (f_X5_readsRequest_j98 row t5.1 t5.2 (ask + 1) 0))) q5)))))

set_option maxHeartbeats 4000000 in
set_option maxRecDepth 100000 in
theorem c_X5_readsRequest (l : Launch) (G : va_G) (cI cJ cZ cO cA : ClassId) (e : Nat × Nat) (aM : Nat → Nat) (sz : Nat) (row : Nat → Int32) (tot : Nat → Int64) (tab : Nat → Int64) (goa : Nat → Int64) (bes : Nat → Int64) (tic : Nat → Int64) (txt : Nat → Int32) (par : Nat → Int32) (sav : Int32) (bwh : Int64) (bpr : Int64) (bse : Int32) (len : Int32) (mat : Int32) (ask : Int32) (hh : Int64) (p0 : Int32) {res : Int32 × (Nat → Int32) × (Nat → Int32) × Int32 × Int32} (hf : f_X5_readsRequest txt len row par mat ask p0 = some res) : MetI l yX5_readsRequest cX5_readsRequest 5 .boolean ({ frames := 3, cells := 0, slots := 0, locals := 67 } : Room) [.ref (aM 0), .int p0] G (ty5 cI cJ cZ cO cA) e (wM cI cJ aM row tot tab goa bes tic txt par sav bwh bpr bse len mat ask hh ++ ([] : va_W)) (wM cI cJ aM res.2.1 tot tab goa bes tic txt res.2.2.1 sav bwh bpr bse len res.2.2.2.1 res.2.2.2.2 hh ++ ([] : va_W)) sz res.1 := by
  refine g_body (QQ := fun A => (qI G (ty5 cI cJ cZ cO cA) A (wM cI cJ aM res.2.1 tot tab goa bes tic txt res.2.2.1 sav bwh bpr bse len res.2.2.2.1 res.2.2.2.2 hh ++ ([] : va_W)) res.1)) (own := RX5) (by decide) rfl (Nat.le_of_ble_eq_true rfl) ?_
  intro p ev s m below meth c A ls hx hb hr hml hown hts hlk hA hP hD hS hK hE hl
  have hl : lv_has ls 5 [(0, .ref (aM 0)), (1, .int p0)] := hl
  show W p l ev ({ frames := 3, cells := 0, slots := 0, locals := 67 } : Room) s m ([.ref (aM 0), .int p0] : List Value).toArray below meth c s.heap [] 0 0 (MQ below (qI G (ty5 cI cJ cZ cO cA) A (wM cI cJ aM res.2.1 tot tab goa bes tic txt res.2.2.1 sav bwh bpr bse len res.2.2.2.1 res.2.2.2.2 hh ++ ([] : va_W)) res.1) ([.ref (aM 0), .int p0] : List Value).toArray s 0 0 A) (F0 m 0 ls [])
  have h := hf
  unfold f_X5_readsRequest at h
  refine lv_aload_n hx hb dX5_readsRequest_0 rfl (lv_at hl 0 rfl) ?_
  obtain ⟨q1, hq1, h⟩ := bd_s h
  refine kVi (n := 0) (C := RX5) (ws' := wM cI cJ aM row tot tab goa bes tic txt par sav bwh bpr bse len q1.2 ask hh ++ ([] : va_W)) (As := []) (rest := []) hx hb hml hown hts (c_X5_here l G cI cJ cZ cO cA e aM _ row tot tab goa bes tic txt par sav bwh bpr bse len mat ask hh hq1) (tb_V kw896 kw898 kv41 kw7 kw899) rfl rfl (by decide +kernel) ⟨Nat.le_of_ble_eq_true rfl, Nat.le_of_ble_eq_true rfl⟩ hK hP hD hS hA hE 0 rfl rfl [0, 1, 2, 3, 4, 5, 6, 7, 8] [] rfl rfl rfl 9 ⟨rfl, rfl⟩ (by decide +kernel) (by decide +kernel) rfl rfl hl.1 (Nat.le_of_ble_eq_true rfl) ⟨Nat.zero_le _, Nat.zero_le _⟩ dX5_readsRequest_1 (fun H locs hP hD hS => ?_)
  refine lv_istore_n (lv' := [(2, .int q1.1), (0, .ref (aM 0)), (1, .int p0)]) hx hb dX5_readsRequest_4 rfl hl (by decide) rfl (fun ls hl => ?_)
  refine lv_iload_n hx hb dX5_readsRequest_5 rfl (lv_at hl 0 rfl) ?_
  refine lv_iconst (v := (-1)) hx hb dX5_readsRequest_6 (by decide) ?_
  refine lv_icmp_eq (tgt := 19) hx hb dX5_readsRequest_7 (by decide) (fun c2 => ?_) (fun c2 => ?_)
  · replace h := (if_pos c2).symm.trans h
    refine lv_iconst (v := 0) hx hb dX5_readsRequest_19 (by decide) ?_
    rw [← Option.some.inj h]
    exact kri hx hb hr hlk rfl rfl hP hD hS hK dX5_readsRequest_20
  · replace h := (if_neg c2).symm.trans h
    refine lv_aload_n hx hb dX5_readsRequest_10 rfl (lv_at hl 1 rfl) ?_
    refine va_get (D := G) (ci := 5) (v := .int ask) (C := RX5) (T := TX5) (N := 16) hx hb hts uX5 hown hK hP 0 rfl rfl 14 (by decide) (hts _ kw593) (fun _ h9 => h9) rfl dX5_readsRequest_11 ?_
    refine lv_bipush (v := 10) hx hb dX5_readsRequest_14 (by decide) ?_
    refine lv_icmp_ne (tgt := 21) hx hb dX5_readsRequest_16 (by decide) (fun c3 => ?_) (fun c3 => ?_)
    · replace h := (if_neg c3).symm.trans h
      refine lv_aload_n hx hb dX5_readsRequest_21 rfl (lv_at hl 1 rfl) ?_
      refine lv_bipush (v := 33) hx hb dX5_readsRequest_22 (by decide) ?_
      obtain ⟨q4, hq4, h⟩ := bd_s h
      refine kVi (n := 1) (C := RX5) (ws' := wM cI cJ aM row tot tab goa bes tic txt par sav bwh bpr bse len q4.2 ask hh ++ ([] : va_W)) (As := [.int 33]) (rest := []) hx hb hml hown hts (c_X5_sign l G cI cJ cZ cO cA e aM _ row tot tab goa bes tic txt par sav bwh bpr bse len q1.2 ask hh 33 hq4) (tb_V kw900 kw902 kv42 kw7 kw903) rfl rfl (by decide +kernel) ⟨Nat.le_of_ble_eq_true rfl, Nat.le_of_ble_eq_true rfl⟩ hK hP hD hS hA hE 0 rfl rfl [0, 1, 2, 3, 4, 5, 6, 7, 8] [] rfl rfl rfl 9 ⟨rfl, rfl⟩ (by decide +kernel) (by decide +kernel) rfl rfl hl.1 (Nat.le_of_ble_eq_true rfl) ⟨Nat.zero_le _, Nat.zero_le _⟩ dX5_readsRequest_24 (fun H locs hP hD hS => ?_)
      refine lv_istore_n (lv' := [(3, .int q4.1), (2, .int q1.1), (0, .ref (aM 0)), (1, .int p0)]) hx hb dX5_readsRequest_27 rfl hl (by decide) rfl (fun ls hl => ?_)
      refine lv_iconst (v := 0) hx hb dX5_readsRequest_28 (by decide) ?_
      refine lv_istore (lv' := [(4, .int 0), (3, .int q4.1), (2, .int q1.1), (0, .ref (aM 0)), (1, .int p0)]) hx hb dX5_readsRequest_29 hl (by decide) rfl (fun ls hl => ?_)
      obtain ⟨q5, hq5, h⟩ := bd_s h
      have hX5_0 : ∀ (t5 : (Nat → Int32) × Int32) (H : Heap) (locs : List Loc) (ls : Array Slot), Sum.inl t5 = q5 → va_P G vwCl (wM cI cJ aM row tot tab goa bes tic txt t5.1 sav bwh bpr bse len t5.2 ask hh ++ ([] : va_W)) H → va_D A (wM cI cJ aM row tot tab goa bes tic txt t5.1 sav bwh bpr bse len t5.2 ask hh ++ ([] : va_W)) → va_S A s.heap H locs → lv_has ls 5 [] → W p l ev ({ frames := 3, cells := 0, slots := 0, locals := 67 } : Room) s m ([.ref (aM 0), .int p0] : List Value).toArray below meth c H locs 0 0 (MQ below (qI G (ty5 cI cJ cZ cO cA) A (wM cI cJ aM res.2.1 tot tab goa bes tic txt res.2.2.1 sav bwh bpr bse len res.2.2.2.1 res.2.2.2.2 hh ++ ([] : va_W)) res.1) ([.ref (aM 0), .int p0] : List Value).toArray s 0 0 A) (F0 m 60 ls []) := by
        intro t5 H locs ls e5 hP hD hS hl
        rw [← e5] at h
        replace h := se_l h
        refine lv_iconst (v := 0) hx hb dX5_readsRequest_60 (by decide) ?_
        rw [← Option.some.inj h]
        exact kri hx hb hr hlk rfl rfl hP hD hS hK dX5_readsRequest_61
      have hX5_1 : ∀ (t5 : (Nat → Int32) × Int32) (H : Heap) (locs : List Loc) (ls : Array Slot), Sum.inr t5 = q5 → va_P G vwCl (wM cI cJ aM row tot tab goa bes tic txt t5.1 sav bwh bpr bse len t5.2 ask hh ++ ([] : va_W)) H → va_D A (wM cI cJ aM row tot tab goa bes tic txt t5.1 sav bwh bpr bse len t5.2 ask hh ++ ([] : va_W)) → va_S A s.heap H locs → lv_has ls 5 [(0, .ref (aM 0)), (1, .int p0), (3, .int q4.1)] → W p l ev ({ frames := 3, cells := 0, slots := 0, locals := 67 } : Room) s m ([.ref (aM 0), .int p0] : List Value).toArray below meth c H locs 0 0 (MQ below (qI G (ty5 cI cJ cZ cO cA) A (wM cI cJ aM res.2.1 tot tab goa bes tic txt res.2.2.1 sav bwh bpr bse len res.2.2.2.1 res.2.2.2.2 hh ++ ([] : va_W)) res.1) ([.ref (aM 0), .int p0] : List Value).toArray s 0 0 A) (F0 m 68 ls []) := by
        intro t5 H locs ls e5 hP hD hS hl
        rw [← e5] at h
        replace h := se_r h
        refine lv_aload_n hx hb dX5_readsRequest_68 rfl (lv_at hl 0 rfl) ?_
        refine lv_dup hx hb dX5_readsRequest_69 rfl ?_
        refine va_get (D := G) (ci := 5) (v := .int ask) (C := RX5) (T := TX5) (N := 16) hx hb hts uX5 hown hK hP 0 rfl rfl 14 (by decide) (hts _ kw593) (fun _ h9 => h9) rfl dX5_readsRequest_70 ?_
        refine lv_iconst (v := 1) hx hb dX5_readsRequest_73 (by decide) ?_
        refine lv_iadd hx hb dX5_readsRequest_74 ?_
        refine va_put (D := G) (ci := 5) (ty := .int) (v := .int (ask + 1)) (C := RX5) (T := TX5) (N := 16) hx hb hts uX5 tyX5 tyX5_ok nmX5 hown hK hP hD hS 0 rfl rfl 14 (by decide) (hts _ kw593) (fun _ h9 => h9) rfl (by decide +kernel) rfl rfl (Nat.le_of_ble_eq_true rfl) dX5_readsRequest_75 (fun H locs hP hD hS => ?_)
        have hP : va_P G vwCl (wM cI cJ aM row tot tab goa bes tic txt t5.1 sav bwh bpr bse len t5.2 (ask + 1) hh ++ ([] : va_W)) H := hP
        have hD : va_D A (wM cI cJ aM row tot tab goa bes tic txt t5.1 sav bwh bpr bse len t5.2 (ask + 1) hh ++ ([] : va_W)) := hD
        refine lv_iload_n hx hb dX5_readsRequest_78 rfl (lv_at hl 1 rfl) ?_
        refine lv_if_eq (tgt := 119) hx hb dX5_readsRequest_79 (by decide) (fun c13 => ?_) (fun c13 => ?_)
        · replace h := (if_pos c13).symm.trans h
          refine lv_iconst (v := 1) hx hb dX5_readsRequest_119 (by decide) ?_
          rw [← Option.some.inj h]
          exact kri hx hb hr hlk rfl rfl hP hD hS hK dX5_readsRequest_120
        · replace h := (if_neg c13).symm.trans h
          refine lv_aload_n hx hb dX5_readsRequest_82 rfl (lv_at hl 0 rfl) ?_
          refine lv_iload_n hx hb dX5_readsRequest_83 rfl (lv_at hl 2 rfl) ?_
          have hJ15 : ∀ (row_15 : Nat → Int32) (par_15 : Nat → Int32) (mat_15 : Int32) (ask_15 : Int32) (t0_15 : Int32) (H : Heap) (locs : List Loc) (ls : Array Slot), f_X5_readsRequest_j98 row_15 par_15 mat_15 ask_15 t0_15 = some res → va_P G vwCl (wM cI cJ aM row_15 tot tab goa bes tic txt par_15 sav bwh bpr bse len mat_15 ask_15 hh ++ ([] : va_W)) H → va_D A (wM cI cJ aM row_15 tot tab goa bes tic txt par_15 sav bwh bpr bse len mat_15 ask_15 hh ++ ([] : va_W)) → va_S A s.heap H locs → lv_has ls 5 [(0, .ref (aM 0))] → W p l ev ({ frames := 3, cells := 0, slots := 0, locals := 67 } : Room) s m ([.ref (aM 0), .int p0] : List Value).toArray below meth c H locs 0 0 (MQ below (qI G (ty5 cI cJ cZ cO cA) A (wM cI cJ aM res.2.1 tot tab goa bes tic txt res.2.2.1 sav bwh bpr bse len res.2.2.2.1 res.2.2.2.2 hh ++ ([] : va_W)) res.1) ([.ref (aM 0), .int p0] : List Value).toArray s 0 0 A) (F0 m 98 ls [.int t0_15, .ref (aM 0)]) := by
            intro row_15 par_15 mat_15 ask_15 t0_15 H locs ls h hP hD hS hl
            unfold f_X5_readsRequest_j98 at h
            refine lv_aload_n hx hb dX5_readsRequest_98 rfl (lv_at hl 0 rfl) ?_
            refine va_get (D := G) (ci := 5) (v := .ref (aM 8)) (C := RX5) (T := TX5) (N := 16) hx hb hts uX5 hown hK hP 0 rfl rfl 13 (by decide) (hts _ kw592) (fun _ h9 => h9) rfl dX5_readsRequest_99 ?_
            refine lv_iconst (v := 0) hx hb dX5_readsRequest_102 (by decide) ?_
            obtain ⟨g16, h⟩ := gd_s h
            refine va_iald hx hb hK hP 8 0 rfl rfl (ib_in g16) dX5_readsRequest_103 ?_
            refine lv_aload_n hx hb dX5_readsRequest_104 rfl (lv_at hl 0 rfl) ?_
            refine va_get (D := G) (ci := 5) (v := .ref (aM 8)) (C := RX5) (T := TX5) (N := 16) hx hb hts uX5 hown hK hP 0 rfl rfl 13 (by decide) (hts _ kw592) (fun _ h9 => h9) rfl dX5_readsRequest_105 ?_
            refine lv_iconst (v := 1) hx hb dX5_readsRequest_108 (by decide) ?_
            obtain ⟨g17, h⟩ := gd_s h
            refine va_iald hx hb hK hP 8 0 rfl rfl (ib_in g17) dX5_readsRequest_109 ?_
            refine lv_aload_n hx hb dX5_readsRequest_110 rfl (lv_at hl 0 rfl) ?_
            refine va_get (D := G) (ci := 5) (v := .ref (aM 8)) (C := RX5) (T := TX5) (N := 16) hx hb hts uX5 hown hK hP 0 rfl rfl 13 (by decide) (hts _ kw592) (fun _ h9 => h9) rfl dX5_readsRequest_111 ?_
            refine lv_iconst (v := 2) hx hb dX5_readsRequest_114 (by decide) ?_
            obtain ⟨g18, h⟩ := gd_s h
            refine va_iald hx hb hK hP 8 0 rfl rfl (ib_in g18) dX5_readsRequest_115 ?_
            obtain ⟨q19, hq19, h⟩ := bd_s h
            refine kVv (n := 4) (C := RX5) (ws' := wM cI cJ aM q19 tot tab goa bes tic txt par_15 sav bwh bpr bse len mat_15 ask_15 hh ++ ([] : va_W)) (As := [.int t0_15, .int (par_15 (0 : Int32).toNatClampNeg), .int (par_15 (1 : Int32).toNatClampNeg), .int (par_15 (2 : Int32).toNatClampNeg)]) (rest := []) hx hb hml hown hts (c_X5_puts l G cI cJ cZ cO cA e aM _ row_15 tot tab goa bes tic txt par_15 sav bwh bpr bse len mat_15 ask_15 hh t0_15 (par_15 (0 : Int32).toNatClampNeg) (par_15 (1 : Int32).toNatClampNeg) (par_15 (2 : Int32).toNatClampNeg) hq19) (tb_V kw795 kw797 kv33 kw7 kw798) rfl rfl (by decide +kernel) ⟨Nat.le_of_ble_eq_true rfl, Nat.le_of_ble_eq_true rfl⟩ hK hP hD hS hA hE 0 rfl rfl [0, 1, 2, 3, 4, 5, 6, 7, 8] [] rfl rfl rfl 9 ⟨rfl, rfl⟩ (by decide +kernel) (by decide +kernel) rfl rfl hl.1 (Nat.le_of_ble_eq_true rfl) ⟨Nat.zero_le _, Nat.zero_le _⟩ dX5_readsRequest_116 (fun H locs hP hD hS => ?_)
            refine lv_iconst (v := 1) hx hb dX5_readsRequest_119 (by decide) ?_
            rw [← Option.some.inj h]
            exact kri hx hb hr hlk rfl rfl hP hD hS hK dX5_readsRequest_120
          refine lv_if_eq (tgt := 91) hx hb dX5_readsRequest_84 (by decide) (fun c14 => ?_) (fun c14 => ?_)
          · replace h := (if_pos c14).symm.trans h
            refine lv_aload_n hx hb dX5_readsRequest_91 rfl (lv_at hl 0 rfl) ?_
            refine va_get (D := G) (ci := 5) (v := .ref (aM 1)) (C := RX5) (T := TX5) (N := 16) hx hb hts uX5 hown hK hP 0 rfl rfl 0 (by decide) (hts _ kw579) (fun _ h9 => h9) rfl dX5_readsRequest_92 ?_
            refine lv_bipush (v := 68) hx hb dX5_readsRequest_95 (by decide) ?_
            obtain ⟨g20, h⟩ := gd_s h
            refine va_iald hx hb hK hP 1 0 rfl rfl (ib_in g20) dX5_readsRequest_97 ?_
            exact hJ15 row t5.1 t5.2 (ask + 1) (row (68 : Int32).toNatClampNeg) _ _ _ h hP hD hS (lv_sub hl [0] rfl)
          · replace h := (if_neg c14).symm.trans h
            refine lv_iconst (v := 0) hx hb dX5_readsRequest_87 (by decide) ?_
            refine lv_goto (tgt := 98) hx hb dX5_readsRequest_88 (by decide) ?_
            exact hJ15 row t5.1 t5.2 (ask + 1) 0 _ _ _ h hP hD hS (lv_sub hl [0] rfl)
      have hL5 : ∀ (n : Nat) (z5 : (Nat → Int32) × Int32 × Int32) (H : Heap) (locs : List Loc) (ls : Array Slot), lp (f_X5_readsRequest_b31 txt len) n z5 = some q5 → va_P G vwCl (wM cI cJ aM row tot tab goa bes tic txt z5.1 sav bwh bpr bse len z5.2.1 ask hh ++ ([] : va_W)) H → va_D A (wM cI cJ aM row tot tab goa bes tic txt z5.1 sav bwh bpr bse len z5.2.1 ask hh ++ ([] : va_W)) → va_S A s.heap H locs → lv_has ls 5 [(0, .ref (aM 0)), (1, .int p0), (3, .int q4.1), (4, .int z5.2.2)] → W p l ev ({ frames := 3, cells := 0, slots := 0, locals := 67 } : Room) s m ([.ref (aM 0), .int p0] : List Value).toArray below meth c H locs 0 0 (MQ below (qI G (ty5 cI cJ cZ cO cA) A (wM cI cJ aM res.2.1 tot tab goa bes tic txt res.2.2.1 sav bwh bpr bse len res.2.2.2.1 res.2.2.2.2 hh ++ ([] : va_W)) res.1) ([.ref (aM 0), .int p0] : List Value).toArray s 0 0 A) (F0 m 31 ls []) := by
        intro n
        induction n with
        | zero => intro z5 H locs ls h; cases h
        | succ n ih5 =>
          intro z5 H locs ls h hP hD hS hl
          obtain ⟨o5, h, h5⟩ := lp_s h
          unfold f_X5_readsRequest_b31 at h
          refine lv_iload hx hb dX5_readsRequest_31 (lv_at hl 3 rfl) ?_
          refine lv_iconst (v := 3) hx hb dX5_readsRequest_33 (by decide) ?_
          refine lv_icmp_ge (tgt := 68) hx hb dX5_readsRequest_34 (by decide) (fun c6 => ?_) (fun c6 => ?_)
          · replace h := (if_pos c6).symm.trans h
            rw [← Option.some.inj h] at h5
            exact hX5_1 (z5.1, z5.2.1) _ _ _ (lp_x h5) hP hD hS (lv_sub hl [0, 1, 2] rfl)
          · replace h := (if_neg c6).symm.trans h
            refine lv_iload hx hb dX5_readsRequest_37 (lv_at hl 3 rfl) ?_
            have hJ8 : ∀ (par_8 : Nat → Int32) (mat_8 : Int32) (v4_8 : Int32) (H : Heap) (locs : List Loc) (ls : Array Slot), f_X5_readsRequest_j51 txt par_8 len mat_8 v4_8 = some o5 → va_P G vwCl (wM cI cJ aM row tot tab goa bes tic txt par_8 sav bwh bpr bse len mat_8 ask hh ++ ([] : va_W)) H → va_D A (wM cI cJ aM row tot tab goa bes tic txt par_8 sav bwh bpr bse len mat_8 ask hh ++ ([] : va_W)) → va_S A s.heap H locs → lv_has ls 5 [(0, .ref (aM 0)), (1, .int p0), (3, .int q4.1), (4, .int v4_8)] → W p l ev ({ frames := 3, cells := 0, slots := 0, locals := 67 } : Room) s m ([.ref (aM 0), .int p0] : List Value).toArray below meth c H locs 0 0 (MQ below (qI G (ty5 cI cJ cZ cO cA) A (wM cI cJ aM res.2.1 tot tab goa bes tic txt res.2.2.1 sav bwh bpr bse len res.2.2.2.1 res.2.2.2.2 hh ++ ([] : va_W)) res.1) ([.ref (aM 0), .int p0] : List Value).toArray s 0 0 A) (F0 m 51 ls []) := by
              intro par_8 mat_8 v4_8 H locs ls h hP hD hS hl
              unfold f_X5_readsRequest_j51 at h
              refine lv_aload_n hx hb dX5_readsRequest_51 rfl (lv_at hl 0 rfl) ?_
              refine lv_iload hx hb dX5_readsRequest_52 (lv_at hl 3 rfl) ?_
              obtain ⟨q9, hq9, h⟩ := bd_s h
              refine kVi (n := 1) (C := RX5) (ws' := wM cI cJ aM row tot tab goa bes tic txt q9.2.1 sav bwh bpr bse len q9.2.2 ask hh ++ ([] : va_W)) (As := [.int v4_8]) (rest := []) hx hb hml hown hts (c_X5_readsPart l G cI cJ cZ cO cA e aM _ row tot tab goa bes tic txt par_8 sav bwh bpr bse len mat_8 ask hh v4_8 hq9) (tb_V kw904 kw906 kv43 kw7 kw907) rfl rfl (by decide +kernel) ⟨Nat.le_of_ble_eq_true rfl, Nat.le_of_ble_eq_true rfl⟩ hK hP hD hS hA hE 0 rfl rfl [0, 1, 2, 3, 4, 5, 6, 7, 8] [] rfl rfl rfl 9 ⟨rfl, rfl⟩ (by decide +kernel) (by decide +kernel) rfl rfl hl.1 (Nat.le_of_ble_eq_true rfl) ⟨Nat.zero_le _, Nat.zero_le _⟩ dX5_readsRequest_54 (fun H locs hP hD hS => ?_)
              refine lv_if_ne (tgt := 62) hx hb dX5_readsRequest_57 (by decide) (fun c10 => ?_) (fun c10 => ?_)
              · replace h := (if_neg c10).symm.trans h
                refine lv_iinc (v := (v4_8 + 1)) (lv' := [(4, .int (v4_8 + 1)), (0, .ref (aM 0)), (1, .int p0), (3, .int q4.1)]) hx hb dX5_readsRequest_62 hl (k := 3) rfl rfl (by decide) rfl (fun ls hl => ?_)
                refine lv_goto (tgt := 31) hx hb dX5_readsRequest_65 (by decide) ?_
                rw [← Option.some.inj h] at h5
                exact ih5 (q9.2.1, q9.2.2, (v4_8 + 1)) _ _ _ (lp_b h5) hP hD hS (lv_sub hl [1, 2, 3, 0] rfl)
              · replace h := (if_pos c10).symm.trans h
                rw [← Option.some.inj h] at h5
                exact hX5_0 (q9.2.1, q9.2.2) _ _ _ (lp_x h5) hP hD hS (lv_sub hl [] rfl)
            refine lv_if_le (tgt := 51) hx hb dX5_readsRequest_39 (by decide) (fun c7 => ?_) (fun c7 => ?_)
            · replace h := (if_pos c7).symm.trans h
              exact hJ8 z5.1 z5.2.1 z5.2.2 _ _ _ h hP hD hS (lv_sub hl [0, 1, 2, 3] rfl)
            · replace h := (if_neg c7).symm.trans h
              refine lv_aload_n hx hb dX5_readsRequest_42 rfl (lv_at hl 0 rfl) ?_
              refine lv_bipush (v := 44) hx hb dX5_readsRequest_43 (by decide) ?_
              obtain ⟨q11, hq11, h⟩ := bd_s h
              refine kVi (n := 1) (C := RX5) (ws' := wM cI cJ aM row tot tab goa bes tic txt z5.1 sav bwh bpr bse len q11.2 ask hh ++ ([] : va_W)) (As := [.int 44]) (rest := []) hx hb hml hown hts (c_X5_sign l G cI cJ cZ cO cA e aM _ row tot tab goa bes tic txt z5.1 sav bwh bpr bse len z5.2.1 ask hh 44 hq11) (tb_V kw900 kw902 kv42 kw7 kw903) rfl rfl (by decide +kernel) ⟨Nat.le_of_ble_eq_true rfl, Nat.le_of_ble_eq_true rfl⟩ hK hP hD hS hA hE 0 rfl rfl [0, 1, 2, 3, 4, 5, 6, 7, 8] [] rfl rfl rfl 9 ⟨rfl, rfl⟩ (by decide +kernel) (by decide +kernel) rfl rfl hl.1 (Nat.le_of_ble_eq_true rfl) ⟨Nat.zero_le _, Nat.zero_le _⟩ dX5_readsRequest_45 (fun H locs hP hD hS => ?_)
              refine lv_if_eq (tgt := 60) hx hb dX5_readsRequest_48 (by decide) (fun c12 => ?_) (fun c12 => ?_)
              · replace h := (if_pos c12).symm.trans h
                rw [← Option.some.inj h] at h5
                exact hX5_0 (z5.1, q11.2) _ _ _ (lp_x h5) hP hD hS (lv_sub hl [] rfl)
              · replace h := (if_neg c12).symm.trans h
                exact hJ8 z5.1 q11.2 z5.2.2 _ _ _ h hP hD hS (lv_sub hl [0, 1, 2, 3] rfl)
      exact hL5 _ (par, q4.2, 0) _ _ _ hq5 hP hD hS (lv_sub hl [3, 4, 1, 0] rfl)
    · replace h := (if_pos c3).symm.trans h
      refine lv_iconst (v := 0) hx hb dX5_readsRequest_19 (by decide) ?_
      rw [← Option.some.inj h]
      exact kri hx hb hr hlk rfl rfl hP hD hS hK dX5_readsRequest_20

/-! X5_readsAll -/
def f_X5_readsAll_j58 (row : Nat → Int32) (txt : Nat → Int32) (par : Nat → Int32) (len : Int32) (mat : Int32) (ask : Int32) (t0 : Int32) : Option (((Nat → Int32) × (Nat → Int32) × Int32 × Int32 × Int32 × Int32) ⊕ ((Nat → Int32) × (Nat → Int32) × Int32 × Int32 × Int32)) :=
  (f_X5_here txt len mat).bind (fun q10 => some (Sum.inl (row, par, q10.2, ask, t0, q10.1)))
def f_X5_readsAll_j57 (row : Nat → Int32) (txt : Nat → Int32) (par : Nat → Int32) (len : Int32) (mat : Int32) (ask : Int32) : Option (((Nat → Int32) × (Nat → Int32) × Int32 × Int32 × Int32 × Int32) ⊕ ((Nat → Int32) × (Nat → Int32) × Int32 × Int32 × Int32)) :=
  f_X5_readsAll_j58 row txt par len mat ask 0
def f_X5_readsAll_b27 (txt : Nat → Int32) (len : Int32) (v1 : Int32) (z4 : (Nat → Int32) × (Nat → Int32) × Int32 × Int32 × Int32 × Int32) : Option (((Nat → Int32) × (Nat → Int32) × Int32 × Int32 × Int32 × Int32) ⊕ ((Nat → Int32) × (Nat → Int32) × Int32 × Int32 × Int32)) :=
  if z4.2.2.2.2.1 = 0 then (some (Sum.inr (z4.1, z4.2.1, z4.2.2.1, z4.2.2.2.1, z4.2.2.2.2.1))) else (if z4.2.2.2.2.2 = (-1) then (some (Sum.inr (z4.1, z4.2.1, z4.2.2.1, z4.2.2.2.1, z4.2.2.2.2.1))) else ((f_X5_sign txt len z4.2.2.1 59).bind (fun q7 => if q7.1 = 0 then (f_X5_readsAll_j57 z4.1 txt z4.2.1 len q7.2 z4.2.2.2.1) else ((f_X5_readsRequest txt len z4.1 z4.2.1 q7.2 z4.2.2.2.1 v1).bind (fun q12 => if q12.1 = 0 then (f_X5_readsAll_j57 q12.2.1 txt q12.2.2.1 len q12.2.2.2.1 q12.2.2.2.2) else (f_X5_readsAll_j58 q12.2.1 txt q12.2.2.1 len q12.2.2.2.1 q12.2.2.2.2 1))))))
def f_X5_readsAll (txt : Nat → Int32) (len : Int32) (row : Nat → Int32) (par : Nat → Int32) (mat : Int32) (ask : Int32) (p0 : Int32) : Option (Int32 × (Nat → Int32) × (Nat → Int32) × Int32 × Int32) :=
  gd (ib 68 708) ((f_X5_readsRequest txt len row par 0 (row (68 : Int32).toNatClampNeg) p0).bind (fun q2 => (f_X5_here txt len q2.2.2.2.1).bind (fun q3 => (lp (f_X5_readsAll_b27 txt len p0) 1000 (q2.2.1, q2.2.2.1, q3.2, q2.2.2.2.2, q2.1, q3.1)).bind (fun q4 => gd (zb q4.2.2.2.2) (some (q4.2.2.2.2, q4.1, q4.2.1, q4.2.2.1, q4.2.2.2.1))))))

set_option maxHeartbeats 4000000 in
set_option maxRecDepth 100000 in
theorem c_X5_readsAll (l : Launch) (G : va_G) (cI cJ cZ cO cA : ClassId) (e : Nat × Nat) (aM : Nat → Nat) (sz : Nat) (row : Nat → Int32) (tot : Nat → Int64) (tab : Nat → Int64) (goa : Nat → Int64) (bes : Nat → Int64) (tic : Nat → Int64) (txt : Nat → Int32) (par : Nat → Int32) (sav : Int32) (bwh : Int64) (bpr : Int64) (bse : Int32) (len : Int32) (mat : Int32) (ask : Int32) (hh : Int64) (p0 : Int32) {res : Int32 × (Nat → Int32) × (Nat → Int32) × Int32 × Int32} (hf : f_X5_readsAll txt len row par mat ask p0 = some res) : MetI l yX5_readsAll cX5_readsAll 4 .boolean ({ frames := 4, cells := 0, slots := 0, locals := 91 } : Room) [.ref (aM 0), .int p0] G (ty5 cI cJ cZ cO cA) e (wM cI cJ aM row tot tab goa bes tic txt par sav bwh bpr bse len mat ask hh ++ ([] : va_W)) (wM cI cJ aM res.2.1 tot tab goa bes tic txt res.2.2.1 sav bwh bpr bse len res.2.2.2.1 res.2.2.2.2 hh ++ ([] : va_W)) sz res.1 := by
  refine g_body (QQ := fun A => (qI G (ty5 cI cJ cZ cO cA) A (wM cI cJ aM res.2.1 tot tab goa bes tic txt res.2.2.1 sav bwh bpr bse len res.2.2.2.1 res.2.2.2.2 hh ++ ([] : va_W)) res.1)) (own := RX5) (by decide) rfl (Nat.le_of_ble_eq_true rfl) ?_
  intro p ev s m below meth c A ls hx hb hr hml hown hts hlk hA hP hD hS hK hE hl
  have hl : lv_has ls 4 [(0, .ref (aM 0)), (1, .int p0)] := hl
  show W p l ev ({ frames := 4, cells := 0, slots := 0, locals := 91 } : Room) s m ([.ref (aM 0), .int p0] : List Value).toArray below meth c s.heap [] 0 0 (MQ below (qI G (ty5 cI cJ cZ cO cA) A (wM cI cJ aM res.2.1 tot tab goa bes tic txt res.2.2.1 sav bwh bpr bse len res.2.2.2.1 res.2.2.2.2 hh ++ ([] : va_W)) res.1) ([.ref (aM 0), .int p0] : List Value).toArray s 0 0 A) (F0 m 0 ls [])
  have h := hf
  unfold f_X5_readsAll at h
  refine lv_aload_n hx hb dX5_readsAll_0 rfl (lv_at hl 0 rfl) ?_
  refine lv_iconst (v := 0) hx hb dX5_readsAll_1 (by decide) ?_
  refine va_put (D := G) (ci := 5) (ty := .int) (v := .int 0) (C := RX5) (T := TX5) (N := 16) hx hb hts uX5 tyX5 tyX5_ok nmX5 hown hK hP hD hS 0 rfl rfl 12 (by decide) (hts _ kw591) (fun _ h9 => h9) rfl (by decide +kernel) rfl rfl (Nat.le_of_ble_eq_true rfl) dX5_readsAll_2 (fun H locs hP hD hS => ?_)
  have hP : va_P G vwCl (wM cI cJ aM row tot tab goa bes tic txt par sav bwh bpr bse len 0 ask hh ++ ([] : va_W)) H := hP
  have hD : va_D A (wM cI cJ aM row tot tab goa bes tic txt par sav bwh bpr bse len 0 ask hh ++ ([] : va_W)) := hD
  refine lv_aload_n hx hb dX5_readsAll_5 rfl (lv_at hl 0 rfl) ?_
  refine lv_aload_n hx hb dX5_readsAll_6 rfl (lv_at hl 0 rfl) ?_
  refine va_get (D := G) (ci := 5) (v := .ref (aM 1)) (C := RX5) (T := TX5) (N := 16) hx hb hts uX5 hown hK hP 0 rfl rfl 0 (by decide) (hts _ kw579) (fun _ h9 => h9) rfl dX5_readsAll_7 ?_
  refine lv_bipush (v := 68) hx hb dX5_readsAll_10 (by decide) ?_
  obtain ⟨g1, h⟩ := gd_s h
  refine va_iald hx hb hK hP 1 0 rfl rfl (ib_in g1) dX5_readsAll_12 ?_
  refine va_put (D := G) (ci := 5) (ty := .int) (v := .int (row (68 : Int32).toNatClampNeg)) (C := RX5) (T := TX5) (N := 16) hx hb hts uX5 tyX5 tyX5_ok nmX5 hown hK hP hD hS 0 rfl rfl 14 (by decide) (hts _ kw593) (fun _ h9 => h9) rfl (by decide +kernel) rfl rfl (Nat.le_of_ble_eq_true rfl) dX5_readsAll_13 (fun H locs hP hD hS => ?_)
  have hP : va_P G vwCl (wM cI cJ aM row tot tab goa bes tic txt par sav bwh bpr bse len 0 (row (68 : Int32).toNatClampNeg) hh ++ ([] : va_W)) H := hP
  have hD : va_D A (wM cI cJ aM row tot tab goa bes tic txt par sav bwh bpr bse len 0 (row (68 : Int32).toNatClampNeg) hh ++ ([] : va_W)) := hD
  refine lv_aload_n hx hb dX5_readsAll_16 rfl (lv_at hl 0 rfl) ?_
  refine lv_iload_n hx hb dX5_readsAll_17 rfl (lv_at hl 1 rfl) ?_
  obtain ⟨q2, hq2, h⟩ := bd_s h
  refine kVi (n := 1) (C := RX5) (ws' := wM cI cJ aM q2.2.1 tot tab goa bes tic txt q2.2.2.1 sav bwh bpr bse len q2.2.2.2.1 q2.2.2.2.2 hh ++ ([] : va_W)) (As := [.int p0]) (rest := []) hx hb hml hown hts (c_X5_readsRequest l G cI cJ cZ cO cA e aM _ row tot tab goa bes tic txt par sav bwh bpr bse len 0 (row (68 : Int32).toNatClampNeg) hh p0 hq2) (tb_V kw892 kw894 kv40 kw7 kw895) rfl rfl (by decide +kernel) ⟨Nat.le_of_ble_eq_true rfl, Nat.le_of_ble_eq_true rfl⟩ hK hP hD hS hA hE 0 rfl rfl [0, 1, 2, 3, 4, 5, 6, 7, 8] [] rfl rfl rfl 9 ⟨rfl, rfl⟩ (by decide +kernel) (by decide +kernel) rfl rfl hl.1 (Nat.le_of_ble_eq_true rfl) ⟨Nat.zero_le _, Nat.zero_le _⟩ dX5_readsAll_18 (fun H locs hP hD hS => ?_)
  refine lv_istore_n (lv' := [(2, .int q2.1), (0, .ref (aM 0)), (1, .int p0)]) hx hb dX5_readsAll_21 rfl hl (by decide) rfl (fun ls hl => ?_)
  refine lv_aload_n hx hb dX5_readsAll_22 rfl (lv_at hl 1 rfl) ?_
  obtain ⟨q3, hq3, h⟩ := bd_s h
  refine kVi (n := 0) (C := RX5) (ws' := wM cI cJ aM q2.2.1 tot tab goa bes tic txt q2.2.2.1 sav bwh bpr bse len q3.2 q2.2.2.2.2 hh ++ ([] : va_W)) (As := []) (rest := []) hx hb hml hown hts (c_X5_here l G cI cJ cZ cO cA e aM _ q2.2.1 tot tab goa bes tic txt q2.2.2.1 sav bwh bpr bse len q2.2.2.2.1 q2.2.2.2.2 hh hq3) (tb_V kw896 kw898 kv41 kw7 kw899) rfl rfl (by decide +kernel) ⟨Nat.le_of_ble_eq_true rfl, Nat.le_of_ble_eq_true rfl⟩ hK hP hD hS hA hE 0 rfl rfl [0, 1, 2, 3, 4, 5, 6, 7, 8] [] rfl rfl rfl 9 ⟨rfl, rfl⟩ (by decide +kernel) (by decide +kernel) rfl rfl hl.1 (Nat.le_of_ble_eq_true rfl) ⟨Nat.zero_le _, Nat.zero_le _⟩ dX5_readsAll_23 (fun H locs hP hD hS => ?_)
  refine lv_istore_n (lv' := [(3, .int q3.1), (2, .int q2.1), (0, .ref (aM 0)), (1, .int p0)]) hx hb dX5_readsAll_26 rfl hl (by decide) rfl (fun ls hl => ?_)
  obtain ⟨q4, hq4, h⟩ := bd_s h
  have hX4_0 : ∀ (x4 : (Nat → Int32) × (Nat → Int32) × Int32 × Int32 × Int32) (H : Heap) (locs : List Loc) (ls : Array Slot), x4 = q4 → va_P G vwCl (wM cI cJ aM x4.1 tot tab goa bes tic txt x4.2.1 sav bwh bpr bse len x4.2.2.1 x4.2.2.2.1 hh ++ ([] : va_W)) H → va_D A (wM cI cJ aM x4.1 tot tab goa bes tic txt x4.2.1 sav bwh bpr bse len x4.2.2.1 x4.2.2.2.1 hh ++ ([] : va_W)) → va_S A s.heap H locs → lv_has ls 4 [(2, .int x4.2.2.2.2)] → W p l ev ({ frames := 4, cells := 0, slots := 0, locals := 91 } : Room) s m ([.ref (aM 0), .int p0] : List Value).toArray below meth c H locs 0 0 (MQ below (qI G (ty5 cI cJ cZ cO cA) A (wM cI cJ aM res.2.1 tot tab goa bes tic txt res.2.2.1 sav bwh bpr bse len res.2.2.2.1 res.2.2.2.2 hh ++ ([] : va_W)) res.1) ([.ref (aM 0), .int p0] : List Value).toArray s 0 0 A) (F0 m 67 ls []) := by
    intro x4 H locs ls e4 hP hD hS hl
    replace e4 := e4.symm
    subst e4
    refine lv_iload_n hx hb dX5_readsAll_67 rfl (lv_at hl 0 rfl) ?_
    obtain ⟨g14, h⟩ := gd_s h
    rw [← Option.some.inj h]
    exact kri hx hb hr hlk (zb_s g14) rfl hP hD hS hK dX5_readsAll_68
  have hL4 : ∀ (n : Nat) (z4 : (Nat → Int32) × (Nat → Int32) × Int32 × Int32 × Int32 × Int32) (H : Heap) (locs : List Loc) (ls : Array Slot), lp (f_X5_readsAll_b27 txt len p0) n z4 = some q4 → va_P G vwCl (wM cI cJ aM z4.1 tot tab goa bes tic txt z4.2.1 sav bwh bpr bse len z4.2.2.1 z4.2.2.2.1 hh ++ ([] : va_W)) H → va_D A (wM cI cJ aM z4.1 tot tab goa bes tic txt z4.2.1 sav bwh bpr bse len z4.2.2.1 z4.2.2.2.1 hh ++ ([] : va_W)) → va_S A s.heap H locs → lv_has ls 4 [(0, .ref (aM 0)), (1, .int p0), (2, .int z4.2.2.2.2.1), (3, .int z4.2.2.2.2.2)] → W p l ev ({ frames := 4, cells := 0, slots := 0, locals := 91 } : Room) s m ([.ref (aM 0), .int p0] : List Value).toArray below meth c H locs 0 0 (MQ below (qI G (ty5 cI cJ cZ cO cA) A (wM cI cJ aM res.2.1 tot tab goa bes tic txt res.2.2.1 sav bwh bpr bse len res.2.2.2.1 res.2.2.2.2 hh ++ ([] : va_W)) res.1) ([.ref (aM 0), .int p0] : List Value).toArray s 0 0 A) (F0 m 27 ls []) := by
    intro n
    induction n with
    | zero => intro z4 H locs ls h; cases h
    | succ n ih4 =>
      intro z4 H locs ls h hP hD hS hl
      obtain ⟨o4, h, h4⟩ := lp_s h
      unfold f_X5_readsAll_b27 at h
      refine lv_iload_n hx hb dX5_readsAll_27 rfl (lv_at hl 2 rfl) ?_
      refine lv_if_eq (tgt := 67) hx hb dX5_readsAll_28 (by decide) (fun c5 => ?_) (fun c5 => ?_)
      · replace h := (if_pos c5).symm.trans h
        rw [← Option.some.inj h] at h4
        exact hX4_0 (z4.1, z4.2.1, z4.2.2.1, z4.2.2.2.1, z4.2.2.2.2.1) _ _ _ (lp_x h4) hP hD hS (lv_sub hl [2] rfl)
      · replace h := (if_neg c5).symm.trans h
        refine lv_iload_n hx hb dX5_readsAll_31 rfl (lv_at hl 3 rfl) ?_
        refine lv_iconst (v := (-1)) hx hb dX5_readsAll_32 (by decide) ?_
        refine lv_icmp_eq (tgt := 67) hx hb dX5_readsAll_33 (by decide) (fun c6 => ?_) (fun c6 => ?_)
        · replace h := (if_pos c6).symm.trans h
          rw [← Option.some.inj h] at h4
          exact hX4_0 (z4.1, z4.2.1, z4.2.2.1, z4.2.2.2.1, z4.2.2.2.2.1) _ _ _ (lp_x h4) hP hD hS (lv_sub hl [2] rfl)
        · replace h := (if_neg c6).symm.trans h
          refine lv_aload_n hx hb dX5_readsAll_36 rfl (lv_at hl 0 rfl) ?_
          refine lv_bipush (v := 59) hx hb dX5_readsAll_37 (by decide) ?_
          obtain ⟨q7, hq7, h⟩ := bd_s h
          refine kVi (n := 1) (C := RX5) (ws' := wM cI cJ aM z4.1 tot tab goa bes tic txt z4.2.1 sav bwh bpr bse len q7.2 z4.2.2.2.1 hh ++ ([] : va_W)) (As := [.int 59]) (rest := []) hx hb hml hown hts (c_X5_sign l G cI cJ cZ cO cA e aM _ z4.1 tot tab goa bes tic txt z4.2.1 sav bwh bpr bse len z4.2.2.1 z4.2.2.2.1 hh 59 hq7) (tb_V kw900 kw902 kv42 kw7 kw903) rfl rfl (by decide +kernel) ⟨Nat.le_of_ble_eq_true rfl, Nat.le_of_ble_eq_true rfl⟩ hK hP hD hS hA hE 0 rfl rfl [0, 1, 2, 3, 4, 5, 6, 7, 8] [] rfl rfl rfl 9 ⟨rfl, rfl⟩ (by decide +kernel) (by decide +kernel) rfl rfl hl.1 (Nat.le_of_ble_eq_true rfl) ⟨Nat.zero_le _, Nat.zero_le _⟩ dX5_readsAll_39 (fun H locs hP hD hS => ?_)
          have hJ9 : ∀ (row_9 : Nat → Int32) (par_9 : Nat → Int32) (mat_9 : Int32) (ask_9 : Int32) (t0_9 : Int32) (H : Heap) (locs : List Loc) (ls : Array Slot), f_X5_readsAll_j58 row_9 txt par_9 len mat_9 ask_9 t0_9 = some o4 → va_P G vwCl (wM cI cJ aM row_9 tot tab goa bes tic txt par_9 sav bwh bpr bse len mat_9 ask_9 hh ++ ([] : va_W)) H → va_D A (wM cI cJ aM row_9 tot tab goa bes tic txt par_9 sav bwh bpr bse len mat_9 ask_9 hh ++ ([] : va_W)) → va_S A s.heap H locs → lv_has ls 4 [(0, .ref (aM 0)), (1, .int p0)] → W p l ev ({ frames := 4, cells := 0, slots := 0, locals := 91 } : Room) s m ([.ref (aM 0), .int p0] : List Value).toArray below meth c H locs 0 0 (MQ below (qI G (ty5 cI cJ cZ cO cA) A (wM cI cJ aM res.2.1 tot tab goa bes tic txt res.2.2.1 sav bwh bpr bse len res.2.2.2.1 res.2.2.2.2 hh ++ ([] : va_W)) res.1) ([.ref (aM 0), .int p0] : List Value).toArray s 0 0 A) (F0 m 58 ls [.int t0_9]) := by
            intro row_9 par_9 mat_9 ask_9 t0_9 H locs ls h hP hD hS hl
            unfold f_X5_readsAll_j58 at h
            refine lv_istore_n (lv' := [(2, .int t0_9), (0, .ref (aM 0)), (1, .int p0)]) hx hb dX5_readsAll_58 rfl hl (by decide) rfl (fun ls hl => ?_)
            refine lv_aload_n hx hb dX5_readsAll_59 rfl (lv_at hl 1 rfl) ?_
            obtain ⟨q10, hq10, h⟩ := bd_s h
            refine kVi (n := 0) (C := RX5) (ws' := wM cI cJ aM row_9 tot tab goa bes tic txt par_9 sav bwh bpr bse len q10.2 ask_9 hh ++ ([] : va_W)) (As := []) (rest := []) hx hb hml hown hts (c_X5_here l G cI cJ cZ cO cA e aM _ row_9 tot tab goa bes tic txt par_9 sav bwh bpr bse len mat_9 ask_9 hh hq10) (tb_V kw896 kw898 kv41 kw7 kw899) rfl rfl (by decide +kernel) ⟨Nat.le_of_ble_eq_true rfl, Nat.le_of_ble_eq_true rfl⟩ hK hP hD hS hA hE 0 rfl rfl [0, 1, 2, 3, 4, 5, 6, 7, 8] [] rfl rfl rfl 9 ⟨rfl, rfl⟩ (by decide +kernel) (by decide +kernel) rfl rfl hl.1 (Nat.le_of_ble_eq_true rfl) ⟨Nat.zero_le _, Nat.zero_le _⟩ dX5_readsAll_60 (fun H locs hP hD hS => ?_)
            refine lv_istore_n (lv' := [(3, .int q10.1), (2, .int t0_9), (0, .ref (aM 0)), (1, .int p0)]) hx hb dX5_readsAll_63 rfl hl (by decide) rfl (fun ls hl => ?_)
            refine lv_goto (tgt := 27) hx hb dX5_readsAll_64 (by decide) ?_
            rw [← Option.some.inj h] at h4
            exact ih4 (row_9, par_9, q10.2, ask_9, t0_9, q10.1) _ _ _ (lp_b h4) hP hD hS (lv_sub hl [2, 3, 1, 0] rfl)
          have hJ11 : ∀ (row_11 : Nat → Int32) (par_11 : Nat → Int32) (mat_11 : Int32) (ask_11 : Int32) (H : Heap) (locs : List Loc) (ls : Array Slot), f_X5_readsAll_j57 row_11 txt par_11 len mat_11 ask_11 = some o4 → va_P G vwCl (wM cI cJ aM row_11 tot tab goa bes tic txt par_11 sav bwh bpr bse len mat_11 ask_11 hh ++ ([] : va_W)) H → va_D A (wM cI cJ aM row_11 tot tab goa bes tic txt par_11 sav bwh bpr bse len mat_11 ask_11 hh ++ ([] : va_W)) → va_S A s.heap H locs → lv_has ls 4 [(0, .ref (aM 0)), (1, .int p0)] → W p l ev ({ frames := 4, cells := 0, slots := 0, locals := 91 } : Room) s m ([.ref (aM 0), .int p0] : List Value).toArray below meth c H locs 0 0 (MQ below (qI G (ty5 cI cJ cZ cO cA) A (wM cI cJ aM res.2.1 tot tab goa bes tic txt res.2.2.1 sav bwh bpr bse len res.2.2.2.1 res.2.2.2.2 hh ++ ([] : va_W)) res.1) ([.ref (aM 0), .int p0] : List Value).toArray s 0 0 A) (F0 m 57 ls []) := by
            intro row_11 par_11 mat_11 ask_11 H locs ls h hP hD hS hl
            unfold f_X5_readsAll_j57 at h
            refine lv_iconst (v := 0) hx hb dX5_readsAll_57 (by decide) ?_
            exact hJ9 row_11 par_11 mat_11 ask_11 0 _ _ _ h hP hD hS (lv_sub hl [0, 1] rfl)
          refine lv_if_eq (tgt := 57) hx hb dX5_readsAll_42 (by decide) (fun c8 => ?_) (fun c8 => ?_)
          · replace h := (if_pos c8).symm.trans h
            exact hJ11 z4.1 z4.2.1 q7.2 z4.2.2.2.1 _ _ _ h hP hD hS (lv_sub hl [0, 1] rfl)
          · replace h := (if_neg c8).symm.trans h
            refine lv_aload_n hx hb dX5_readsAll_45 rfl (lv_at hl 0 rfl) ?_
            refine lv_iload_n hx hb dX5_readsAll_46 rfl (lv_at hl 1 rfl) ?_
            obtain ⟨q12, hq12, h⟩ := bd_s h
            refine kVi (n := 1) (C := RX5) (ws' := wM cI cJ aM q12.2.1 tot tab goa bes tic txt q12.2.2.1 sav bwh bpr bse len q12.2.2.2.1 q12.2.2.2.2 hh ++ ([] : va_W)) (As := [.int p0]) (rest := []) hx hb hml hown hts (c_X5_readsRequest l G cI cJ cZ cO cA e aM _ z4.1 tot tab goa bes tic txt z4.2.1 sav bwh bpr bse len q7.2 z4.2.2.2.1 hh p0 hq12) (tb_V kw892 kw894 kv40 kw7 kw895) rfl rfl (by decide +kernel) ⟨Nat.le_of_ble_eq_true rfl, Nat.le_of_ble_eq_true rfl⟩ hK hP hD hS hA hE 0 rfl rfl [0, 1, 2, 3, 4, 5, 6, 7, 8] [] rfl rfl rfl 9 ⟨rfl, rfl⟩ (by decide +kernel) (by decide +kernel) rfl rfl hl.1 (Nat.le_of_ble_eq_true rfl) ⟨Nat.zero_le _, Nat.zero_le _⟩ dX5_readsAll_47 (fun H locs hP hD hS => ?_)
            refine lv_if_eq (tgt := 57) hx hb dX5_readsAll_50 (by decide) (fun c13 => ?_) (fun c13 => ?_)
            · replace h := (if_pos c13).symm.trans h
              exact hJ11 q12.2.1 q12.2.2.1 q12.2.2.2.1 q12.2.2.2.2 _ _ _ h hP hD hS (lv_sub hl [0, 1] rfl)
            · replace h := (if_neg c13).symm.trans h
              refine lv_iconst (v := 1) hx hb dX5_readsAll_53 (by decide) ?_
              refine lv_goto (tgt := 58) hx hb dX5_readsAll_54 (by decide) ?_
              exact hJ9 q12.2.1 q12.2.2.1 q12.2.2.2.1 q12.2.2.2.2 1 _ _ _ h hP hD hS (lv_sub hl [0, 1] rfl)
  exact hL4 _ (q2.2.1, q2.2.2.1, q3.2, q2.2.2.2.2, q2.1, q3.1) _ _ _ hq4 hP hD hS (lv_sub hl [2, 3, 1, 0] rfl)

/-! X5_textFault -/
def f_X5_textFault (txt : Nat → Int32) (len : Int32) (row : Nat → Int32) (par : Nat → Int32) (mat : Int32) (ask : Int32) : Option (Int32 × (Nat → Int32) × (Nat → Int32) × Int32 × Int32) :=
  (f_X5_readsAll txt len row par mat ask 0).bind (fun q1 => if q1.1 = 0 then (some (q1.2.2.2.1, q1.2.1, q1.2.2.1, q1.2.2.2.1, q1.2.2.2.2)) else (some ((-2000000000), q1.2.1, q1.2.2.1, q1.2.2.2.1, q1.2.2.2.2)))

set_option maxHeartbeats 4000000 in
set_option maxRecDepth 100000 in
theorem c_X5_textFault (l : Launch) (G : va_G) (cI cJ cZ cO cA : ClassId) (e : Nat × Nat) (aM : Nat → Nat) (sz : Nat) (row : Nat → Int32) (tot : Nat → Int64) (tab : Nat → Int64) (goa : Nat → Int64) (bes : Nat → Int64) (tic : Nat → Int64) (txt : Nat → Int32) (par : Nat → Int32) (sav : Int32) (bwh : Int64) (bpr : Int64) (bse : Int32) (len : Int32) (mat : Int32) (ask : Int32) (hh : Int64) {res : Int32 × (Nat → Int32) × (Nat → Int32) × Int32 × Int32} (hf : f_X5_textFault txt len row par mat ask = some res) : MetI l yX5_textFault cX5_textFault 1 .int ({ frames := 5, cells := 0, slots := 0, locals := 114 } : Room) [.ref (aM 0)] G (ty5 cI cJ cZ cO cA) e (wM cI cJ aM row tot tab goa bes tic txt par sav bwh bpr bse len mat ask hh ++ ([] : va_W)) (wM cI cJ aM res.2.1 tot tab goa bes tic txt res.2.2.1 sav bwh bpr bse len res.2.2.2.1 res.2.2.2.2 hh ++ ([] : va_W)) sz res.1 := by
  refine g_body (QQ := fun A => (qI G (ty5 cI cJ cZ cO cA) A (wM cI cJ aM res.2.1 tot tab goa bes tic txt res.2.2.1 sav bwh bpr bse len res.2.2.2.1 res.2.2.2.2 hh ++ ([] : va_W)) res.1)) (own := RX5) (by decide) rfl (Nat.le_of_ble_eq_true rfl) ?_
  intro p ev s m below meth c A ls hx hb hr hml hown hts hlk hA hP hD hS hK hE hl
  have hl : lv_has ls 1 [(0, .ref (aM 0))] := hl
  show W p l ev ({ frames := 5, cells := 0, slots := 0, locals := 114 } : Room) s m ([.ref (aM 0)] : List Value).toArray below meth c s.heap [] 0 0 (MQ below (qI G (ty5 cI cJ cZ cO cA) A (wM cI cJ aM res.2.1 tot tab goa bes tic txt res.2.2.1 sav bwh bpr bse len res.2.2.2.1 res.2.2.2.2 hh ++ ([] : va_W)) res.1) ([.ref (aM 0)] : List Value).toArray s 0 0 A) (F0 m 0 ls [])
  have h := hf
  unfold f_X5_textFault at h
  refine lv_aload_n hx hb dX5_textFault_0 rfl (lv_at hl 0 rfl) ?_
  refine lv_iconst (v := 0) hx hb dX5_textFault_1 (by decide) ?_
  obtain ⟨q1, hq1, h⟩ := bd_s h
  refine kVi (n := 1) (C := RX5) (ws' := wM cI cJ aM q1.2.1 tot tab goa bes tic txt q1.2.2.1 sav bwh bpr bse len q1.2.2.2.1 q1.2.2.2.2 hh ++ ([] : va_W)) (As := [.int 0]) (rest := []) hx hb hml hown hts (c_X5_readsAll l G cI cJ cZ cO cA e aM _ row tot tab goa bes tic txt par sav bwh bpr bse len mat ask hh 0 hq1) (tb_V kw888 kw890 kv39 kw7 kw891) rfl rfl (by decide +kernel) ⟨Nat.le_of_ble_eq_true rfl, Nat.le_of_ble_eq_true rfl⟩ hK hP hD hS hA hE 0 rfl rfl [0, 1, 2, 3, 4, 5, 6, 7, 8] [] rfl rfl rfl 9 ⟨rfl, rfl⟩ (by decide +kernel) (by decide +kernel) rfl rfl hl.1 (Nat.le_of_ble_eq_true rfl) ⟨Nat.zero_le _, Nat.zero_le _⟩ dX5_textFault_2 (fun H locs hP hD hS => ?_)
  refine lv_if_eq (tgt := 13) hx hb dX5_textFault_5 (by decide) (fun c2 => ?_) (fun c2 => ?_)
  · replace h := (if_pos c2).symm.trans h
    refine lv_aload_n hx hb dX5_textFault_13 rfl (lv_at hl 0 rfl) ?_
    refine va_get (D := G) (ci := 5) (v := .int q1.2.2.2.1) (C := RX5) (T := TX5) (N := 16) hx hb hts uX5 hown hK hP 0 rfl rfl 12 (by decide) (hts _ kw591) (fun _ h9 => h9) rfl dX5_textFault_14 ?_
    rw [← Option.some.inj h]
    exact kri hx hb hr hlk rfl rfl hP hD hS hK dX5_textFault_17
  · replace h := (if_neg c2).symm.trans h
    refine lv_ldc (v := (-2000000000)) hx hb hown (hts _ kw769) dX5_textFault_8 ?_
    refine lv_goto (tgt := 17) hx hb dX5_textFault_10 (by decide) ?_
    rw [← Option.some.inj h]
    exact kri hx hb hr hlk rfl rfl hP hD hS hK dX5_textFault_17

/-! X5_load -/
def f_X5_load (txt : Nat → Int32) (len : Int32) (row : Nat → Int32) (tot : Nat → Int64) (par : Nat → Int32) (sav : Int32) (mat : Int32) (ask : Int32) : Option (Int32 × (Nat → Int32) × (Nat → Int64) × (Nat → Int32) × Int32 × Int32 × Int32) :=
  (f_X5_readsAll txt len row par mat ask 0).bind (fun q1 => if q1.1 = 0 then (some ((-2000000003), q1.2.1, tot, q1.2.2.1, sav, q1.2.2.2.1, q1.2.2.2.2)) else ((f_X5_saves q1.2.1 tot sav).bind (fun q3 => (f_X5_readsAll txt len q3.1 q1.2.2.1 q1.2.2.2.1 q1.2.2.2.2 1).bind (fun q4 => gd (ib 68 708) (some ((q4.2.1 (68 : Int32).toNatClampNeg), q4.2.1, q3.2.1, q4.2.2.1, q3.2.2, q4.2.2.2.1, q4.2.2.2.2))))))

set_option maxHeartbeats 4000000 in
set_option maxRecDepth 100000 in
theorem c_X5_load (l : Launch) (G : va_G) (cI cJ cZ cO cA : ClassId) (e : Nat × Nat) (aM : Nat → Nat) (sz : Nat) (row : Nat → Int32) (tot : Nat → Int64) (tab : Nat → Int64) (goa : Nat → Int64) (bes : Nat → Int64) (tic : Nat → Int64) (txt : Nat → Int32) (par : Nat → Int32) (sav : Int32) (bwh : Int64) (bpr : Int64) (bse : Int32) (len : Int32) (mat : Int32) (ask : Int32) (hh : Int64) {res : Int32 × (Nat → Int32) × (Nat → Int64) × (Nat → Int32) × Int32 × Int32 × Int32} (hf : f_X5_load txt len row tot par sav mat ask = some res) : MetI l yX5_load cX5_load 2 .int ({ frames := 5, cells := 0, slots := 0, locals := 114 } : Room) [.ref (aM 0)] G (ty5 cI cJ cZ cO cA) e (wM cI cJ aM row tot tab goa bes tic txt par sav bwh bpr bse len mat ask hh ++ ([] : va_W)) (wM cI cJ aM res.2.1 res.2.2.1 tab goa bes tic txt res.2.2.2.1 res.2.2.2.2.1 bwh bpr bse len res.2.2.2.2.2.1 res.2.2.2.2.2.2 hh ++ ([] : va_W)) sz res.1 := by
  refine g_body (QQ := fun A => (qI G (ty5 cI cJ cZ cO cA) A (wM cI cJ aM res.2.1 res.2.2.1 tab goa bes tic txt res.2.2.2.1 res.2.2.2.2.1 bwh bpr bse len res.2.2.2.2.2.1 res.2.2.2.2.2.2 hh ++ ([] : va_W)) res.1)) (own := RX5) (by decide) rfl (Nat.le_of_ble_eq_true rfl) ?_
  intro p ev s m below meth c A ls hx hb hr hml hown hts hlk hA hP hD hS hK hE hl
  have hl : lv_has ls 2 [(0, .ref (aM 0))] := hl
  show W p l ev ({ frames := 5, cells := 0, slots := 0, locals := 114 } : Room) s m ([.ref (aM 0)] : List Value).toArray below meth c s.heap [] 0 0 (MQ below (qI G (ty5 cI cJ cZ cO cA) A (wM cI cJ aM res.2.1 res.2.2.1 tab goa bes tic txt res.2.2.2.1 res.2.2.2.2.1 bwh bpr bse len res.2.2.2.2.2.1 res.2.2.2.2.2.2 hh ++ ([] : va_W)) res.1) ([.ref (aM 0)] : List Value).toArray s 0 0 A) (F0 m 0 ls [])
  have h := hf
  unfold f_X5_load at h
  refine lv_aload_n hx hb dX5_load_0 rfl (lv_at hl 0 rfl) ?_
  refine lv_iconst (v := 0) hx hb dX5_load_1 (by decide) ?_
  obtain ⟨q1, hq1, h⟩ := bd_s h
  refine kVi (n := 1) (C := RX5) (ws' := wM cI cJ aM q1.2.1 tot tab goa bes tic txt q1.2.2.1 sav bwh bpr bse len q1.2.2.2.1 q1.2.2.2.2 hh ++ ([] : va_W)) (As := [.int 0]) (rest := []) hx hb hml hown hts (c_X5_readsAll l G cI cJ cZ cO cA e aM _ row tot tab goa bes tic txt par sav bwh bpr bse len mat ask hh 0 hq1) (tb_V kw888 kw890 kv39 kw7 kw891) rfl rfl (by decide +kernel) ⟨Nat.le_of_ble_eq_true rfl, Nat.le_of_ble_eq_true rfl⟩ hK hP hD hS hA hE 0 rfl rfl [0, 1, 2, 3, 4, 5, 6, 7, 8] [] rfl rfl rfl 9 ⟨rfl, rfl⟩ (by decide +kernel) (by decide +kernel) rfl rfl hl.1 (Nat.le_of_ble_eq_true rfl) ⟨Nat.zero_le _, Nat.zero_le _⟩ dX5_load_2 (fun H locs hP hD hS => ?_)
  refine lv_if_ne (tgt := 11) hx hb dX5_load_5 (by decide) (fun c2 => ?_) (fun c2 => ?_)
  · replace h := (if_neg c2).symm.trans h
    refine lv_aload_n hx hb dX5_load_11 rfl (lv_at hl 0 rfl) ?_
    obtain ⟨q3, hq3, h⟩ := bd_s h
    refine kVv (n := 0) (C := RX5) (ws' := wM cI cJ aM q3.1 q3.2.1 tab goa bes tic txt q1.2.2.1 q3.2.2 bwh bpr bse len q1.2.2.2.1 q1.2.2.2.2 hh ++ ([] : va_W)) (As := []) (rest := []) hx hb hml hown hts (c_X5_saves l G cI cJ cZ cO cA e aM _ q1.2.1 tot tab goa bes tic txt q1.2.2.1 sav bwh bpr bse len q1.2.2.2.1 q1.2.2.2.2 hh hq3) (tb_V kw641 kw643 kv14 kw7 kw644) rfl rfl (by decide +kernel) ⟨Nat.le_of_ble_eq_true rfl, Nat.le_of_ble_eq_true rfl⟩ hK hP hD hS hA hE 0 rfl rfl [0, 1, 2, 3, 4, 5, 6, 7, 8] [] rfl rfl rfl 9 ⟨rfl, rfl⟩ (by decide +kernel) (by decide +kernel) rfl rfl hl.1 (Nat.le_of_ble_eq_true rfl) ⟨Nat.zero_le _, Nat.zero_le _⟩ dX5_load_12 (fun H locs hP hD hS => ?_)
    refine lv_aload_n hx hb dX5_load_15 rfl (lv_at hl 0 rfl) ?_
    refine lv_iconst (v := 1) hx hb dX5_load_16 (by decide) ?_
    obtain ⟨q4, hq4, h⟩ := bd_s h
    refine kVi (n := 1) (C := RX5) (ws' := wM cI cJ aM q4.2.1 q3.2.1 tab goa bes tic txt q4.2.2.1 q3.2.2 bwh bpr bse len q4.2.2.2.1 q4.2.2.2.2 hh ++ ([] : va_W)) (As := [.int 1]) (rest := []) hx hb hml hown hts (c_X5_readsAll l G cI cJ cZ cO cA e aM _ q3.1 q3.2.1 tab goa bes tic txt q1.2.2.1 q3.2.2 bwh bpr bse len q1.2.2.2.1 q1.2.2.2.2 hh 1 hq4) (tb_V kw888 kw890 kv39 kw7 kw891) rfl rfl (by decide +kernel) ⟨Nat.le_of_ble_eq_true rfl, Nat.le_of_ble_eq_true rfl⟩ hK hP hD hS hA hE 0 rfl rfl [0, 1, 2, 3, 4, 5, 6, 7, 8] [] rfl rfl rfl 9 ⟨rfl, rfl⟩ (by decide +kernel) (by decide +kernel) rfl rfl hl.1 (Nat.le_of_ble_eq_true rfl) ⟨Nat.zero_le _, Nat.zero_le _⟩ dX5_load_17 (fun H locs hP hD hS => ?_)
    refine lv_istore_n (lv' := [(1, .int q4.1), (0, .ref (aM 0))]) hx hb dX5_load_20 rfl hl (by decide) rfl (fun ls hl => ?_)
    refine lv_aload_n hx hb dX5_load_21 rfl (lv_at hl 1 rfl) ?_
    refine va_get (D := G) (ci := 5) (v := .ref (aM 1)) (C := RX5) (T := TX5) (N := 16) hx hb hts uX5 hown hK hP 0 rfl rfl 0 (by decide) (hts _ kw579) (fun _ h9 => h9) rfl dX5_load_22 ?_
    refine lv_bipush (v := 68) hx hb dX5_load_25 (by decide) ?_
    obtain ⟨g5, h⟩ := gd_s h
    refine va_iald hx hb hK hP 1 0 rfl rfl (ib_in g5) dX5_load_27 ?_
    rw [← Option.some.inj h]
    exact kri hx hb hr hlk rfl rfl hP hD hS hK dX5_load_28
  · replace h := (if_pos c2).symm.trans h
    refine lv_ldc (v := (-2000000003)) hx hb hown (hts _ kw723) dX5_load_8 ?_
    rw [← Option.some.inj h]
    exact kri hx hb hr hlk rfl rfl hP hD hS hK dX5_load_10

/-! X5_note -/
def f_X5_note (hh : Int64) (p0 : Int64) : Option (Int64) :=
  some ((31 * hh) + p0)

set_option maxHeartbeats 4000000 in
set_option maxRecDepth 100000 in
theorem c_X5_note (l : Launch) (G : va_G) (cI cJ cZ cO cA : ClassId) (e : Nat × Nat) (aM : Nat → Nat) (sz : Nat) (row : Nat → Int32) (tot : Nat → Int64) (tab : Nat → Int64) (goa : Nat → Int64) (bes : Nat → Int64) (tic : Nat → Int64) (txt : Nat → Int32) (par : Nat → Int32) (sav : Int32) (bwh : Int64) (bpr : Int64) (bse : Int32) (len : Int32) (mat : Int32) (ask : Int32) (hh : Int64) (p0 : Int64) {res : Int64} (hf : f_X5_note hh p0 = some res) : MetV l yX5_note cX5_note 3 ({ frames := 0, cells := 0, slots := 0, locals := 0 } : Room) [.ref (aM 0), .long p0] G (ty5 cI cJ cZ cO cA) e (wM cI cJ aM row tot tab goa bes tic txt par sav bwh bpr bse len mat ask hh ++ ([] : va_W)) (wM cI cJ aM row tot tab goa bes tic txt par sav bwh bpr bse len mat ask res ++ ([] : va_W)) sz := by
  refine g_body (QQ := fun A => (qV G (ty5 cI cJ cZ cO cA) A (wM cI cJ aM row tot tab goa bes tic txt par sav bwh bpr bse len mat ask res ++ ([] : va_W)))) (own := RX5) (by decide) rfl (Nat.le_of_ble_eq_true rfl) ?_
  intro p ev s m below meth c A ls hx hb hr hml hown hts hlk hA hP hD hS hK hE hl
  have hl : lv_has ls 3 [(0, .ref (aM 0)), (1, .long p0)] := hl
  show W p l ev ({ frames := 0, cells := 0, slots := 0, locals := 0 } : Room) s m ([.ref (aM 0), .long p0] : List Value).toArray below meth c s.heap [] 0 0 (MQ below (qV G (ty5 cI cJ cZ cO cA) A (wM cI cJ aM row tot tab goa bes tic txt par sav bwh bpr bse len mat ask res ++ ([] : va_W))) ([.ref (aM 0), .long p0] : List Value).toArray s 0 0 A) (F0 m 0 ls [])
  have h := hf
  unfold f_X5_note at h
  refine lv_aload_n hx hb dX5_note_0 rfl (lv_at hl 0 rfl) ?_
  refine lv_ldc2 (v := 31) hx hb hown (hts _ kw921) dX5_note_1 ?_
  refine lv_aload_n hx hb dX5_note_4 rfl (lv_at hl 0 rfl) ?_
  refine va_get (D := G) (ci := 5) (v := .long hh) (C := RX5) (T := TX5) (N := 16) hx hb hts uX5 hown hK hP 0 rfl rfl 15 (by decide) (hts _ kw594) (fun _ h9 => h9) rfl dX5_note_5 ?_
  refine lv_lmul hx hb dX5_note_8 ?_
  refine lv_lload_n hx hb dX5_note_9 rfl (lv_at hl 1 rfl) ?_
  refine lv_ladd hx hb dX5_note_10 ?_
  refine va_put (D := G) (ci := 5) (ty := .long) (v := .long ((31 * hh) + p0)) (C := RX5) (T := TX5) (N := 16) hx hb hts uX5 tyX5 tyX5_ok nmX5 hown hK hP hD hS 0 rfl rfl 15 (by decide) (hts _ kw594) (fun _ h9 => h9) rfl (by decide +kernel) rfl rfl (Nat.le_of_ble_eq_true rfl) dX5_note_11 (fun H locs hP hD hS => ?_)
  have hP : va_P G vwCl (wM cI cJ aM row tot tab goa bes tic txt par sav bwh bpr bse len mat ask ((31 * hh) + p0) ++ ([] : va_W)) H := hP
  have hD : va_D A (wM cI cJ aM row tot tab goa bes tic txt par sav bwh bpr bse len mat ask ((31 * hh) + p0) ++ ([] : va_W)) := hD
  rw [← Option.some.inj h]
  exact krv hx hb hr hlk hP hD hS hK dX5_note_14

/-! X5_digest -/
def f_X5_digest_b32 (row : Nat → Int32) (v1 : Int32) (z6 : Int64 × Int32) : Option ((Int64 × Int32) ⊕ (Int64)) :=
  if 7 ≤ z6.2 then (some (Sum.inr z6.1)) else ((f_X5_of row v1 z6.2).bind (fun q8 => (f_X5_note z6.1 q8.toInt64).bind (fun q9 => some (Sum.inl (q9, (z6.2 + 1))))))
def f_X5_digest_b20 (row : Nat → Int32) (z3 : Int64 × Int32) : Option ((Int64 × Int32) ⊕ (Int64)) :=
  gd (ib 0 708) (if (row (0 : Int32).toNatClampNeg) ≤ z3.2 then (some (Sum.inr z3.1)) else ((lp (f_X5_digest_b32 row z3.2) 1000 (z3.1, 0)).bind (fun q6 => gd (ib (108 + z3.2) 708) ((f_X5_note q6 ((row (108 + z3.2).toNatClampNeg).toInt64)).bind (fun q11 => some (Sum.inl (q11, (z3.2 + 1))))))))
def f_X5_digest_b113 (row : Nat → Int32) (z18 : Int64 × Int32) : Option ((Int64 × Int32) ⊕ (Int64)) :=
  gd (ib 68 708) (if (3 * (row (68 : Int32).toNatClampNeg)) ≤ z18.2 then (some (Sum.inr z18.1)) else (gd (ib (69 + z18.2) 708) ((f_X5_note z18.1 ((row (69 + z18.2).toNatClampNeg).toInt64)).bind (fun q22 => some (Sum.inl (q22, (z18.2 + 1)))))))
def f_X5_digest_b148 (row : Nat → Int32) (z23 : Int64 × Int32) : Option ((Int64 × Int32) ⊕ (Int64)) :=
  if 9 ≤ z23.2 then (some (Sum.inr z23.1)) else (gd (ib (99 + z23.2) 708) ((f_X5_note z23.1 ((row (99 + z23.2).toNatClampNeg).toInt64)).bind (fun q26 => some (Sum.inl (q26, (z23.2 + 1))))))
def f_X5_digest_b176 (tot : Nat → Int64) (z27 : Int64 × Int32) : Option ((Int64 × Int32) ⊕ (Int64)) :=
  if 3 ≤ z27.2 then (some (Sum.inr z27.1)) else (gd (ib z27.2 18) ((f_X5_note z27.1 (tot z27.2.toNatClampNeg)).bind (fun q30 => some (Sum.inl (q30, (z27.2 + 1))))))
def f_X5_digest (row : Nat → Int32) (tot : Nat → Int64) (hh : Int64) : Option (Int64 × Int64) :=
  gd (ib 0 708) ((f_X5_note 17 ((row (0 : Int32).toNatClampNeg).toInt64)).bind (fun q2 => (lp (f_X5_digest_b20 row) 1000 (q2, 0)).bind (fun q3 => gd (ib 57 708) ((f_X5_note q3 ((row (57 : Int32).toNatClampNeg).toInt64)).bind (fun q13 => gd (ib 58 708) ((f_X5_note q13 ((row (58 : Int32).toNatClampNeg).toInt64)).bind (fun q15 => gd (ib 68 708) ((f_X5_note q15 ((row (68 : Int32).toNatClampNeg).toInt64)).bind (fun q17 => (lp (f_X5_digest_b113 row) 1000 (q17, 0)).bind (fun q18 => (lp (f_X5_digest_b148 row) 1000 (q18, 0)).bind (fun q23 => (lp (f_X5_digest_b176 tot) 1000 (q23, 0)).bind (fun q27 => gd (ib 117 708) ((f_X5_note q27 ((row (117 : Int32).toNatClampNeg).toInt64)).bind (fun q32 => some (q32, q32)))))))))))))))

set_option maxHeartbeats 4000000 in
set_option maxRecDepth 100000 in
theorem c_X5_digest (l : Launch) (G : va_G) (cI cJ cZ cO cA : ClassId) (e : Nat × Nat) (aM : Nat → Nat) (sz : Nat) (row : Nat → Int32) (tot : Nat → Int64) (tab : Nat → Int64) (goa : Nat → Int64) (bes : Nat → Int64) (tic : Nat → Int64) (txt : Nat → Int32) (par : Nat → Int32) (sav : Int32) (bwh : Int64) (bpr : Int64) (bse : Int32) (len : Int32) (mat : Int32) (ask : Int32) (hh : Int64) {res : Int64 × Int64} (hf : f_X5_digest row tot hh = some res) : MetL l yX5_digest cX5_digest 3 ({ frames := 1, cells := 0, slots := 0, locals := 22 } : Room) [.ref (aM 0)] G (ty5 cI cJ cZ cO cA) e (wM cI cJ aM row tot tab goa bes tic txt par sav bwh bpr bse len mat ask hh ++ ([] : va_W)) (wM cI cJ aM row tot tab goa bes tic txt par sav bwh bpr bse len mat ask res.2 ++ ([] : va_W)) sz res.1 := by
  refine g_body (QQ := fun A => (qL G (ty5 cI cJ cZ cO cA) A (wM cI cJ aM row tot tab goa bes tic txt par sav bwh bpr bse len mat ask res.2 ++ ([] : va_W)) res.1)) (own := RX5) (by decide) rfl (Nat.le_of_ble_eq_true rfl) ?_
  intro p ev s m below meth c A ls hx hb hr hml hown hts hlk hA hP hD hS hK hE hl
  have hl : lv_has ls 3 [(0, .ref (aM 0))] := hl
  show W p l ev ({ frames := 1, cells := 0, slots := 0, locals := 22 } : Room) s m ([.ref (aM 0)] : List Value).toArray below meth c s.heap [] 0 0 (MQ below (qL G (ty5 cI cJ cZ cO cA) A (wM cI cJ aM row tot tab goa bes tic txt par sav bwh bpr bse len mat ask res.2 ++ ([] : va_W)) res.1) ([.ref (aM 0)] : List Value).toArray s 0 0 A) (F0 m 0 ls [])
  have h := hf
  unfold f_X5_digest at h
  refine lv_aload_n hx hb dX5_digest_0 rfl (lv_at hl 0 rfl) ?_
  refine lv_ldc2 (v := 17) hx hb hown (hts _ kw916) dX5_digest_1 ?_
  refine va_put (D := G) (ci := 5) (ty := .long) (v := .long 17) (C := RX5) (T := TX5) (N := 16) hx hb hts uX5 tyX5 tyX5_ok nmX5 hown hK hP hD hS 0 rfl rfl 15 (by decide) (hts _ kw594) (fun _ h9 => h9) rfl (by decide +kernel) rfl rfl (Nat.le_of_ble_eq_true rfl) dX5_digest_4 (fun H locs hP hD hS => ?_)
  have hP : va_P G vwCl (wM cI cJ aM row tot tab goa bes tic txt par sav bwh bpr bse len mat ask 17 ++ ([] : va_W)) H := hP
  have hD : va_D A (wM cI cJ aM row tot tab goa bes tic txt par sav bwh bpr bse len mat ask 17 ++ ([] : va_W)) := hD
  refine lv_aload_n hx hb dX5_digest_7 rfl (lv_at hl 0 rfl) ?_
  refine lv_aload_n hx hb dX5_digest_8 rfl (lv_at hl 0 rfl) ?_
  refine va_get (D := G) (ci := 5) (v := .ref (aM 1)) (C := RX5) (T := TX5) (N := 16) hx hb hts uX5 hown hK hP 0 rfl rfl 0 (by decide) (hts _ kw579) (fun _ h9 => h9) rfl dX5_digest_9 ?_
  refine lv_iconst (v := 0) hx hb dX5_digest_12 (by decide) ?_
  obtain ⟨g1, h⟩ := gd_s h
  refine va_iald hx hb hK hP 1 0 rfl rfl (ib_in g1) dX5_digest_13 ?_
  refine lv_i2l (v := (row (0 : Int32).toNatClampNeg).toInt64) hx hb dX5_digest_14 rfl ?_
  obtain ⟨q2, hq2, h⟩ := bd_s h
  refine kVv (n := 1) (C := RX5) (ws' := wM cI cJ aM row tot tab goa bes tic txt par sav bwh bpr bse len mat ask q2 ++ ([] : va_W)) (As := [.long ((row (0 : Int32).toNatClampNeg).toInt64)]) (rest := []) hx hb hml hown hts (c_X5_note l G cI cJ cZ cO cA e aM _ row tot tab goa bes tic txt par sav bwh bpr bse len mat ask 17 ((row (0 : Int32).toNatClampNeg).toInt64) hq2) (tb_V kw917 kw919 kv44 kw7 kw920) rfl rfl (by decide +kernel) ⟨Nat.le_of_ble_eq_true rfl, Nat.le_of_ble_eq_true rfl⟩ hK hP hD hS hA hE 0 rfl rfl [0, 1, 2, 3, 4, 5, 6, 7, 8] [] rfl rfl rfl 9 ⟨rfl, rfl⟩ (by decide +kernel) (by decide +kernel) rfl rfl hl.1 (Nat.le_of_ble_eq_true rfl) ⟨Nat.zero_le _, Nat.zero_le _⟩ dX5_digest_15 (fun H locs hP hD hS => ?_)
  refine lv_iconst (v := 0) hx hb dX5_digest_18 (by decide) ?_
  refine lv_istore_n (lv' := [(1, .int 0), (0, .ref (aM 0))]) hx hb dX5_digest_19 rfl hl (by decide) rfl (fun ls hl => ?_)
  obtain ⟨q3, hq3, h⟩ := bd_s h
  have hX3_0 : ∀ (x3 : Int64) (H : Heap) (locs : List Loc) (ls : Array Slot), x3 = q3 → va_P G vwCl (wM cI cJ aM row tot tab goa bes tic txt par sav bwh bpr bse len mat ask x3 ++ ([] : va_W)) H → va_D A (wM cI cJ aM row tot tab goa bes tic txt par sav bwh bpr bse len mat ask x3 ++ ([] : va_W)) → va_S A s.heap H locs → lv_has ls 3 [(0, .ref (aM 0))] → W p l ev ({ frames := 1, cells := 0, slots := 0, locals := 22 } : Room) s m ([.ref (aM 0)] : List Value).toArray below meth c H locs 0 0 (MQ below (qL G (ty5 cI cJ cZ cO cA) A (wM cI cJ aM row tot tab goa bes tic txt par sav bwh bpr bse len mat ask res.2 ++ ([] : va_W)) res.1) ([.ref (aM 0)] : List Value).toArray s 0 0 A) (F0 m 75 ls []) := by
    intro x3 H locs ls e3 hP hD hS hl
    replace e3 := e3.symm
    subst e3
    refine lv_aload_n hx hb dX5_digest_75 rfl (lv_at hl 0 rfl) ?_
    refine lv_aload_n hx hb dX5_digest_76 rfl (lv_at hl 0 rfl) ?_
    refine va_get (D := G) (ci := 5) (v := .ref (aM 1)) (C := RX5) (T := TX5) (N := 16) hx hb hts uX5 hown hK hP 0 rfl rfl 0 (by decide) (hts _ kw579) (fun _ h9 => h9) rfl dX5_digest_77 ?_
    refine lv_bipush (v := 57) hx hb dX5_digest_80 (by decide) ?_
    obtain ⟨g12, h⟩ := gd_s h
    refine va_iald hx hb hK hP 1 0 rfl rfl (ib_in g12) dX5_digest_82 ?_
    refine lv_i2l (v := (row (57 : Int32).toNatClampNeg).toInt64) hx hb dX5_digest_83 rfl ?_
    obtain ⟨q13, hq13, h⟩ := bd_s h
    refine kVv (n := 1) (C := RX5) (ws' := wM cI cJ aM row tot tab goa bes tic txt par sav bwh bpr bse len mat ask q13 ++ ([] : va_W)) (As := [.long ((row (57 : Int32).toNatClampNeg).toInt64)]) (rest := []) hx hb hml hown hts (c_X5_note l G cI cJ cZ cO cA e aM _ row tot tab goa bes tic txt par sav bwh bpr bse len mat ask q3 ((row (57 : Int32).toNatClampNeg).toInt64) hq13) (tb_V kw917 kw919 kv44 kw7 kw920) rfl rfl (by decide +kernel) ⟨Nat.le_of_ble_eq_true rfl, Nat.le_of_ble_eq_true rfl⟩ hK hP hD hS hA hE 0 rfl rfl [0, 1, 2, 3, 4, 5, 6, 7, 8] [] rfl rfl rfl 9 ⟨rfl, rfl⟩ (by decide +kernel) (by decide +kernel) rfl rfl hl.1 (Nat.le_of_ble_eq_true rfl) ⟨Nat.zero_le _, Nat.zero_le _⟩ dX5_digest_84 (fun H locs hP hD hS => ?_)
    refine lv_aload_n hx hb dX5_digest_87 rfl (lv_at hl 0 rfl) ?_
    refine lv_aload_n hx hb dX5_digest_88 rfl (lv_at hl 0 rfl) ?_
    refine va_get (D := G) (ci := 5) (v := .ref (aM 1)) (C := RX5) (T := TX5) (N := 16) hx hb hts uX5 hown hK hP 0 rfl rfl 0 (by decide) (hts _ kw579) (fun _ h9 => h9) rfl dX5_digest_89 ?_
    refine lv_bipush (v := 58) hx hb dX5_digest_92 (by decide) ?_
    obtain ⟨g14, h⟩ := gd_s h
    refine va_iald hx hb hK hP 1 0 rfl rfl (ib_in g14) dX5_digest_94 ?_
    refine lv_i2l (v := (row (58 : Int32).toNatClampNeg).toInt64) hx hb dX5_digest_95 rfl ?_
    obtain ⟨q15, hq15, h⟩ := bd_s h
    refine kVv (n := 1) (C := RX5) (ws' := wM cI cJ aM row tot tab goa bes tic txt par sav bwh bpr bse len mat ask q15 ++ ([] : va_W)) (As := [.long ((row (58 : Int32).toNatClampNeg).toInt64)]) (rest := []) hx hb hml hown hts (c_X5_note l G cI cJ cZ cO cA e aM _ row tot tab goa bes tic txt par sav bwh bpr bse len mat ask q13 ((row (58 : Int32).toNatClampNeg).toInt64) hq15) (tb_V kw917 kw919 kv44 kw7 kw920) rfl rfl (by decide +kernel) ⟨Nat.le_of_ble_eq_true rfl, Nat.le_of_ble_eq_true rfl⟩ hK hP hD hS hA hE 0 rfl rfl [0, 1, 2, 3, 4, 5, 6, 7, 8] [] rfl rfl rfl 9 ⟨rfl, rfl⟩ (by decide +kernel) (by decide +kernel) rfl rfl hl.1 (Nat.le_of_ble_eq_true rfl) ⟨Nat.zero_le _, Nat.zero_le _⟩ dX5_digest_96 (fun H locs hP hD hS => ?_)
    refine lv_aload_n hx hb dX5_digest_99 rfl (lv_at hl 0 rfl) ?_
    refine lv_aload_n hx hb dX5_digest_100 rfl (lv_at hl 0 rfl) ?_
    refine va_get (D := G) (ci := 5) (v := .ref (aM 1)) (C := RX5) (T := TX5) (N := 16) hx hb hts uX5 hown hK hP 0 rfl rfl 0 (by decide) (hts _ kw579) (fun _ h9 => h9) rfl dX5_digest_101 ?_
    refine lv_bipush (v := 68) hx hb dX5_digest_104 (by decide) ?_
    obtain ⟨g16, h⟩ := gd_s h
    refine va_iald hx hb hK hP 1 0 rfl rfl (ib_in g16) dX5_digest_106 ?_
    refine lv_i2l (v := (row (68 : Int32).toNatClampNeg).toInt64) hx hb dX5_digest_107 rfl ?_
    obtain ⟨q17, hq17, h⟩ := bd_s h
    refine kVv (n := 1) (C := RX5) (ws' := wM cI cJ aM row tot tab goa bes tic txt par sav bwh bpr bse len mat ask q17 ++ ([] : va_W)) (As := [.long ((row (68 : Int32).toNatClampNeg).toInt64)]) (rest := []) hx hb hml hown hts (c_X5_note l G cI cJ cZ cO cA e aM _ row tot tab goa bes tic txt par sav bwh bpr bse len mat ask q15 ((row (68 : Int32).toNatClampNeg).toInt64) hq17) (tb_V kw917 kw919 kv44 kw7 kw920) rfl rfl (by decide +kernel) ⟨Nat.le_of_ble_eq_true rfl, Nat.le_of_ble_eq_true rfl⟩ hK hP hD hS hA hE 0 rfl rfl [0, 1, 2, 3, 4, 5, 6, 7, 8] [] rfl rfl rfl 9 ⟨rfl, rfl⟩ (by decide +kernel) (by decide +kernel) rfl rfl hl.1 (Nat.le_of_ble_eq_true rfl) ⟨Nat.zero_le _, Nat.zero_le _⟩ dX5_digest_108 (fun H locs hP hD hS => ?_)
    refine lv_iconst (v := 0) hx hb dX5_digest_111 (by decide) ?_
    refine lv_istore_n (lv' := [(1, .int 0), (0, .ref (aM 0))]) hx hb dX5_digest_112 rfl hl (by decide) rfl (fun ls hl => ?_)
    obtain ⟨q18, hq18, h⟩ := bd_s h
    have hX18_0 : ∀ (x18 : Int64) (H : Heap) (locs : List Loc) (ls : Array Slot), x18 = q18 → va_P G vwCl (wM cI cJ aM row tot tab goa bes tic txt par sav bwh bpr bse len mat ask x18 ++ ([] : va_W)) H → va_D A (wM cI cJ aM row tot tab goa bes tic txt par sav bwh bpr bse len mat ask x18 ++ ([] : va_W)) → va_S A s.heap H locs → lv_has ls 3 [(0, .ref (aM 0))] → W p l ev ({ frames := 1, cells := 0, slots := 0, locals := 22 } : Room) s m ([.ref (aM 0)] : List Value).toArray below meth c H locs 0 0 (MQ below (qL G (ty5 cI cJ cZ cO cA) A (wM cI cJ aM row tot tab goa bes tic txt par sav bwh bpr bse len mat ask res.2 ++ ([] : va_W)) res.1) ([.ref (aM 0)] : List Value).toArray s 0 0 A) (F0 m 146 ls []) := by
      intro x18 H locs ls e18 hP hD hS hl
      replace e18 := e18.symm
      subst e18
      refine lv_iconst (v := 0) hx hb dX5_digest_146 (by decide) ?_
      refine lv_istore_n (lv' := [(1, .int 0), (0, .ref (aM 0))]) hx hb dX5_digest_147 rfl hl (by decide) rfl (fun ls hl => ?_)
      obtain ⟨q23, hq23, h⟩ := bd_s h
      have hX23_0 : ∀ (x23 : Int64) (H : Heap) (locs : List Loc) (ls : Array Slot), x23 = q23 → va_P G vwCl (wM cI cJ aM row tot tab goa bes tic txt par sav bwh bpr bse len mat ask x23 ++ ([] : va_W)) H → va_D A (wM cI cJ aM row tot tab goa bes tic txt par sav bwh bpr bse len mat ask x23 ++ ([] : va_W)) → va_S A s.heap H locs → lv_has ls 3 [(0, .ref (aM 0))] → W p l ev ({ frames := 1, cells := 0, slots := 0, locals := 22 } : Room) s m ([.ref (aM 0)] : List Value).toArray below meth c H locs 0 0 (MQ below (qL G (ty5 cI cJ cZ cO cA) A (wM cI cJ aM row tot tab goa bes tic txt par sav bwh bpr bse len mat ask res.2 ++ ([] : va_W)) res.1) ([.ref (aM 0)] : List Value).toArray s 0 0 A) (F0 m 174 ls []) := by
        intro x23 H locs ls e23 hP hD hS hl
        replace e23 := e23.symm
        subst e23
        refine lv_iconst (v := 0) hx hb dX5_digest_174 (by decide) ?_
        refine lv_istore_n (lv' := [(1, .int 0), (0, .ref (aM 0))]) hx hb dX5_digest_175 rfl hl (by decide) rfl (fun ls hl => ?_)
        obtain ⟨q27, hq27, h⟩ := bd_s h
        have hX27_0 : ∀ (x27 : Int64) (H : Heap) (locs : List Loc) (ls : Array Slot), x27 = q27 → va_P G vwCl (wM cI cJ aM row tot tab goa bes tic txt par sav bwh bpr bse len mat ask x27 ++ ([] : va_W)) H → va_D A (wM cI cJ aM row tot tab goa bes tic txt par sav bwh bpr bse len mat ask x27 ++ ([] : va_W)) → va_S A s.heap H locs → lv_has ls 3 [(0, .ref (aM 0))] → W p l ev ({ frames := 1, cells := 0, slots := 0, locals := 22 } : Room) s m ([.ref (aM 0)] : List Value).toArray below meth c H locs 0 0 (MQ below (qL G (ty5 cI cJ cZ cO cA) A (wM cI cJ aM row tot tab goa bes tic txt par sav bwh bpr bse len mat ask res.2 ++ ([] : va_W)) res.1) ([.ref (aM 0)] : List Value).toArray s 0 0 A) (F0 m 197 ls []) := by
          intro x27 H locs ls e27 hP hD hS hl
          replace e27 := e27.symm
          subst e27
          refine lv_aload_n hx hb dX5_digest_197 rfl (lv_at hl 0 rfl) ?_
          refine lv_aload_n hx hb dX5_digest_198 rfl (lv_at hl 0 rfl) ?_
          refine va_get (D := G) (ci := 5) (v := .ref (aM 1)) (C := RX5) (T := TX5) (N := 16) hx hb hts uX5 hown hK hP 0 rfl rfl 0 (by decide) (hts _ kw579) (fun _ h9 => h9) rfl dX5_digest_199 ?_
          refine lv_bipush (v := 117) hx hb dX5_digest_202 (by decide) ?_
          obtain ⟨g31, h⟩ := gd_s h
          refine va_iald hx hb hK hP 1 0 rfl rfl (ib_in g31) dX5_digest_204 ?_
          refine lv_i2l (v := (row (117 : Int32).toNatClampNeg).toInt64) hx hb dX5_digest_205 rfl ?_
          obtain ⟨q32, hq32, h⟩ := bd_s h
          refine kVv (n := 1) (C := RX5) (ws' := wM cI cJ aM row tot tab goa bes tic txt par sav bwh bpr bse len mat ask q32 ++ ([] : va_W)) (As := [.long ((row (117 : Int32).toNatClampNeg).toInt64)]) (rest := []) hx hb hml hown hts (c_X5_note l G cI cJ cZ cO cA e aM _ row tot tab goa bes tic txt par sav bwh bpr bse len mat ask q27 ((row (117 : Int32).toNatClampNeg).toInt64) hq32) (tb_V kw917 kw919 kv44 kw7 kw920) rfl rfl (by decide +kernel) ⟨Nat.le_of_ble_eq_true rfl, Nat.le_of_ble_eq_true rfl⟩ hK hP hD hS hA hE 0 rfl rfl [0, 1, 2, 3, 4, 5, 6, 7, 8] [] rfl rfl rfl 9 ⟨rfl, rfl⟩ (by decide +kernel) (by decide +kernel) rfl rfl hl.1 (Nat.le_of_ble_eq_true rfl) ⟨Nat.zero_le _, Nat.zero_le _⟩ dX5_digest_206 (fun H locs hP hD hS => ?_)
          refine lv_aload_n hx hb dX5_digest_209 rfl (lv_at hl 0 rfl) ?_
          refine va_get (D := G) (ci := 5) (v := .long q32) (C := RX5) (T := TX5) (N := 16) hx hb hts uX5 hown hK hP 0 rfl rfl 15 (by decide) (hts _ kw594) (fun _ h9 => h9) rfl dX5_digest_210 ?_
          rw [← Option.some.inj h]
          exact krl hx hb hr hlk rfl hP hD hS hK dX5_digest_213
        have hL27 : ∀ (n : Nat) (z27 : Int64 × Int32) (H : Heap) (locs : List Loc) (ls : Array Slot), lp (f_X5_digest_b176 tot) n z27 = some q27 → va_P G vwCl (wM cI cJ aM row tot tab goa bes tic txt par sav bwh bpr bse len mat ask z27.1 ++ ([] : va_W)) H → va_D A (wM cI cJ aM row tot tab goa bes tic txt par sav bwh bpr bse len mat ask z27.1 ++ ([] : va_W)) → va_S A s.heap H locs → lv_has ls 3 [(0, .ref (aM 0)), (1, .int z27.2)] → W p l ev ({ frames := 1, cells := 0, slots := 0, locals := 22 } : Room) s m ([.ref (aM 0)] : List Value).toArray below meth c H locs 0 0 (MQ below (qL G (ty5 cI cJ cZ cO cA) A (wM cI cJ aM row tot tab goa bes tic txt par sav bwh bpr bse len mat ask res.2 ++ ([] : va_W)) res.1) ([.ref (aM 0)] : List Value).toArray s 0 0 A) (F0 m 176 ls []) := by
          intro n
          induction n with
          | zero => intro z27 H locs ls h; cases h
          | succ n ih27 =>
            intro z27 H locs ls h hP hD hS hl
            obtain ⟨o27, h, h27⟩ := lp_s h
            unfold f_X5_digest_b176 at h
            refine lv_iload_n hx hb dX5_digest_176 rfl (lv_at hl 1 rfl) ?_
            refine lv_iconst (v := 3) hx hb dX5_digest_177 (by decide) ?_
            refine lv_icmp_ge (tgt := 197) hx hb dX5_digest_178 (by decide) (fun c28 => ?_) (fun c28 => ?_)
            · replace h := (if_pos c28).symm.trans h
              rw [← Option.some.inj h] at h27
              exact hX27_0 z27.1 _ _ _ (lp_x h27) hP hD hS (lv_sub hl [0] rfl)
            · replace h := (if_neg c28).symm.trans h
              refine lv_aload_n hx hb dX5_digest_181 rfl (lv_at hl 0 rfl) ?_
              refine lv_aload_n hx hb dX5_digest_182 rfl (lv_at hl 0 rfl) ?_
              refine va_get (D := G) (ci := 5) (v := .ref (aM 2)) (C := RX5) (T := TX5) (N := 16) hx hb hts uX5 hown hK hP 0 rfl rfl 1 (by decide) (hts _ kw580) (fun _ h9 => h9) rfl dX5_digest_183 ?_
              refine lv_iload_n hx hb dX5_digest_186 rfl (lv_at hl 1 rfl) ?_
              obtain ⟨g29, h⟩ := gd_s h
              refine va_lald hx hb hK hP 2 1 rfl rfl (ib_in g29) dX5_digest_187 ?_
              obtain ⟨q30, hq30, h⟩ := bd_s h
              refine kVv (n := 1) (C := RX5) (ws' := wM cI cJ aM row tot tab goa bes tic txt par sav bwh bpr bse len mat ask q30 ++ ([] : va_W)) (As := [.long (tot z27.2.toNatClampNeg)]) (rest := []) hx hb hml hown hts (c_X5_note l G cI cJ cZ cO cA e aM _ row tot tab goa bes tic txt par sav bwh bpr bse len mat ask z27.1 (tot z27.2.toNatClampNeg) hq30) (tb_V kw917 kw919 kv44 kw7 kw920) rfl rfl (by decide +kernel) ⟨Nat.le_of_ble_eq_true rfl, Nat.le_of_ble_eq_true rfl⟩ hK hP hD hS hA hE 0 rfl rfl [0, 1, 2, 3, 4, 5, 6, 7, 8] [] rfl rfl rfl 9 ⟨rfl, rfl⟩ (by decide +kernel) (by decide +kernel) rfl rfl hl.1 (Nat.le_of_ble_eq_true rfl) ⟨Nat.zero_le _, Nat.zero_le _⟩ dX5_digest_188 (fun H locs hP hD hS => ?_)
              refine lv_iinc (v := (z27.2 + 1)) (lv' := [(1, .int (z27.2 + 1)), (0, .ref (aM 0))]) hx hb dX5_digest_191 hl (k := 1) rfl rfl (by decide) rfl (fun ls hl => ?_)
              refine lv_goto (tgt := 176) hx hb dX5_digest_194 (by decide) ?_
              rw [← Option.some.inj h] at h27
              exact ih27 (q30, (z27.2 + 1)) _ _ _ (lp_b h27) hP hD hS (lv_sub hl [1, 0] rfl)
        exact hL27 _ (q23, 0) _ _ _ hq27 hP hD hS (lv_sub hl [1, 0] rfl)
      have hL23 : ∀ (n : Nat) (z23 : Int64 × Int32) (H : Heap) (locs : List Loc) (ls : Array Slot), lp (f_X5_digest_b148 row) n z23 = some q23 → va_P G vwCl (wM cI cJ aM row tot tab goa bes tic txt par sav bwh bpr bse len mat ask z23.1 ++ ([] : va_W)) H → va_D A (wM cI cJ aM row tot tab goa bes tic txt par sav bwh bpr bse len mat ask z23.1 ++ ([] : va_W)) → va_S A s.heap H locs → lv_has ls 3 [(0, .ref (aM 0)), (1, .int z23.2)] → W p l ev ({ frames := 1, cells := 0, slots := 0, locals := 22 } : Room) s m ([.ref (aM 0)] : List Value).toArray below meth c H locs 0 0 (MQ below (qL G (ty5 cI cJ cZ cO cA) A (wM cI cJ aM row tot tab goa bes tic txt par sav bwh bpr bse len mat ask res.2 ++ ([] : va_W)) res.1) ([.ref (aM 0)] : List Value).toArray s 0 0 A) (F0 m 148 ls []) := by
        intro n
        induction n with
        | zero => intro z23 H locs ls h; cases h
        | succ n ih23 =>
          intro z23 H locs ls h hP hD hS hl
          obtain ⟨o23, h, h23⟩ := lp_s h
          unfold f_X5_digest_b148 at h
          refine lv_iload_n hx hb dX5_digest_148 rfl (lv_at hl 1 rfl) ?_
          refine lv_bipush (v := 9) hx hb dX5_digest_149 (by decide) ?_
          refine lv_icmp_ge (tgt := 174) hx hb dX5_digest_151 (by decide) (fun c24 => ?_) (fun c24 => ?_)
          · replace h := (if_pos c24).symm.trans h
            rw [← Option.some.inj h] at h23
            exact hX23_0 z23.1 _ _ _ (lp_x h23) hP hD hS (lv_sub hl [0] rfl)
          · replace h := (if_neg c24).symm.trans h
            refine lv_aload_n hx hb dX5_digest_154 rfl (lv_at hl 0 rfl) ?_
            refine lv_aload_n hx hb dX5_digest_155 rfl (lv_at hl 0 rfl) ?_
            refine va_get (D := G) (ci := 5) (v := .ref (aM 1)) (C := RX5) (T := TX5) (N := 16) hx hb hts uX5 hown hK hP 0 rfl rfl 0 (by decide) (hts _ kw579) (fun _ h9 => h9) rfl dX5_digest_156 ?_
            refine lv_bipush (v := 99) hx hb dX5_digest_159 (by decide) ?_
            refine lv_iload_n hx hb dX5_digest_161 rfl (lv_at hl 1 rfl) ?_
            refine lv_iadd hx hb dX5_digest_162 ?_
            obtain ⟨g25, h⟩ := gd_s h
            refine va_iald hx hb hK hP 1 0 rfl rfl (ib_in g25) dX5_digest_163 ?_
            refine lv_i2l (v := (row (99 + z23.2).toNatClampNeg).toInt64) hx hb dX5_digest_164 rfl ?_
            obtain ⟨q26, hq26, h⟩ := bd_s h
            refine kVv (n := 1) (C := RX5) (ws' := wM cI cJ aM row tot tab goa bes tic txt par sav bwh bpr bse len mat ask q26 ++ ([] : va_W)) (As := [.long ((row (99 + z23.2).toNatClampNeg).toInt64)]) (rest := []) hx hb hml hown hts (c_X5_note l G cI cJ cZ cO cA e aM _ row tot tab goa bes tic txt par sav bwh bpr bse len mat ask z23.1 ((row (99 + z23.2).toNatClampNeg).toInt64) hq26) (tb_V kw917 kw919 kv44 kw7 kw920) rfl rfl (by decide +kernel) ⟨Nat.le_of_ble_eq_true rfl, Nat.le_of_ble_eq_true rfl⟩ hK hP hD hS hA hE 0 rfl rfl [0, 1, 2, 3, 4, 5, 6, 7, 8] [] rfl rfl rfl 9 ⟨rfl, rfl⟩ (by decide +kernel) (by decide +kernel) rfl rfl hl.1 (Nat.le_of_ble_eq_true rfl) ⟨Nat.zero_le _, Nat.zero_le _⟩ dX5_digest_165 (fun H locs hP hD hS => ?_)
            refine lv_iinc (v := (z23.2 + 1)) (lv' := [(1, .int (z23.2 + 1)), (0, .ref (aM 0))]) hx hb dX5_digest_168 hl (k := 1) rfl rfl (by decide) rfl (fun ls hl => ?_)
            refine lv_goto (tgt := 148) hx hb dX5_digest_171 (by decide) ?_
            rw [← Option.some.inj h] at h23
            exact ih23 (q26, (z23.2 + 1)) _ _ _ (lp_b h23) hP hD hS (lv_sub hl [1, 0] rfl)
      exact hL23 _ (q18, 0) _ _ _ hq23 hP hD hS (lv_sub hl [1, 0] rfl)
    have hL18 : ∀ (n : Nat) (z18 : Int64 × Int32) (H : Heap) (locs : List Loc) (ls : Array Slot), lp (f_X5_digest_b113 row) n z18 = some q18 → va_P G vwCl (wM cI cJ aM row tot tab goa bes tic txt par sav bwh bpr bse len mat ask z18.1 ++ ([] : va_W)) H → va_D A (wM cI cJ aM row tot tab goa bes tic txt par sav bwh bpr bse len mat ask z18.1 ++ ([] : va_W)) → va_S A s.heap H locs → lv_has ls 3 [(0, .ref (aM 0)), (1, .int z18.2)] → W p l ev ({ frames := 1, cells := 0, slots := 0, locals := 22 } : Room) s m ([.ref (aM 0)] : List Value).toArray below meth c H locs 0 0 (MQ below (qL G (ty5 cI cJ cZ cO cA) A (wM cI cJ aM row tot tab goa bes tic txt par sav bwh bpr bse len mat ask res.2 ++ ([] : va_W)) res.1) ([.ref (aM 0)] : List Value).toArray s 0 0 A) (F0 m 113 ls []) := by
      intro n
      induction n with
      | zero => intro z18 H locs ls h; cases h
      | succ n ih18 =>
        intro z18 H locs ls h hP hD hS hl
        obtain ⟨o18, h, h18⟩ := lp_s h
        unfold f_X5_digest_b113 at h
        refine lv_iload_n hx hb dX5_digest_113 rfl (lv_at hl 1 rfl) ?_
        refine lv_iconst (v := 3) hx hb dX5_digest_114 (by decide) ?_
        refine lv_aload_n hx hb dX5_digest_115 rfl (lv_at hl 0 rfl) ?_
        refine va_get (D := G) (ci := 5) (v := .ref (aM 1)) (C := RX5) (T := TX5) (N := 16) hx hb hts uX5 hown hK hP 0 rfl rfl 0 (by decide) (hts _ kw579) (fun _ h9 => h9) rfl dX5_digest_116 ?_
        refine lv_bipush (v := 68) hx hb dX5_digest_119 (by decide) ?_
        obtain ⟨g19, h⟩ := gd_s h
        refine va_iald hx hb hK hP 1 0 rfl rfl (ib_in g19) dX5_digest_121 ?_
        refine lv_imul hx hb dX5_digest_122 ?_
        refine lv_icmp_ge (tgt := 146) hx hb dX5_digest_123 (by decide) (fun c20 => ?_) (fun c20 => ?_)
        · replace h := (if_pos c20).symm.trans h
          rw [← Option.some.inj h] at h18
          exact hX18_0 z18.1 _ _ _ (lp_x h18) hP hD hS (lv_sub hl [0] rfl)
        · replace h := (if_neg c20).symm.trans h
          refine lv_aload_n hx hb dX5_digest_126 rfl (lv_at hl 0 rfl) ?_
          refine lv_aload_n hx hb dX5_digest_127 rfl (lv_at hl 0 rfl) ?_
          refine va_get (D := G) (ci := 5) (v := .ref (aM 1)) (C := RX5) (T := TX5) (N := 16) hx hb hts uX5 hown hK hP 0 rfl rfl 0 (by decide) (hts _ kw579) (fun _ h9 => h9) rfl dX5_digest_128 ?_
          refine lv_bipush (v := 69) hx hb dX5_digest_131 (by decide) ?_
          refine lv_iload_n hx hb dX5_digest_133 rfl (lv_at hl 1 rfl) ?_
          refine lv_iadd hx hb dX5_digest_134 ?_
          obtain ⟨g21, h⟩ := gd_s h
          refine va_iald hx hb hK hP 1 0 rfl rfl (ib_in g21) dX5_digest_135 ?_
          refine lv_i2l (v := (row (69 + z18.2).toNatClampNeg).toInt64) hx hb dX5_digest_136 rfl ?_
          obtain ⟨q22, hq22, h⟩ := bd_s h
          refine kVv (n := 1) (C := RX5) (ws' := wM cI cJ aM row tot tab goa bes tic txt par sav bwh bpr bse len mat ask q22 ++ ([] : va_W)) (As := [.long ((row (69 + z18.2).toNatClampNeg).toInt64)]) (rest := []) hx hb hml hown hts (c_X5_note l G cI cJ cZ cO cA e aM _ row tot tab goa bes tic txt par sav bwh bpr bse len mat ask z18.1 ((row (69 + z18.2).toNatClampNeg).toInt64) hq22) (tb_V kw917 kw919 kv44 kw7 kw920) rfl rfl (by decide +kernel) ⟨Nat.le_of_ble_eq_true rfl, Nat.le_of_ble_eq_true rfl⟩ hK hP hD hS hA hE 0 rfl rfl [0, 1, 2, 3, 4, 5, 6, 7, 8] [] rfl rfl rfl 9 ⟨rfl, rfl⟩ (by decide +kernel) (by decide +kernel) rfl rfl hl.1 (Nat.le_of_ble_eq_true rfl) ⟨Nat.zero_le _, Nat.zero_le _⟩ dX5_digest_137 (fun H locs hP hD hS => ?_)
          refine lv_iinc (v := (z18.2 + 1)) (lv' := [(1, .int (z18.2 + 1)), (0, .ref (aM 0))]) hx hb dX5_digest_140 hl (k := 1) rfl rfl (by decide) rfl (fun ls hl => ?_)
          refine lv_goto (tgt := 113) hx hb dX5_digest_143 (by decide) ?_
          rw [← Option.some.inj h] at h18
          exact ih18 (q22, (z18.2 + 1)) _ _ _ (lp_b h18) hP hD hS (lv_sub hl [1, 0] rfl)
    exact hL18 _ (q17, 0) _ _ _ hq18 hP hD hS (lv_sub hl [1, 0] rfl)
  have hL3 : ∀ (n : Nat) (z3 : Int64 × Int32) (H : Heap) (locs : List Loc) (ls : Array Slot), lp (f_X5_digest_b20 row) n z3 = some q3 → va_P G vwCl (wM cI cJ aM row tot tab goa bes tic txt par sav bwh bpr bse len mat ask z3.1 ++ ([] : va_W)) H → va_D A (wM cI cJ aM row tot tab goa bes tic txt par sav bwh bpr bse len mat ask z3.1 ++ ([] : va_W)) → va_S A s.heap H locs → lv_has ls 3 [(0, .ref (aM 0)), (1, .int z3.2)] → W p l ev ({ frames := 1, cells := 0, slots := 0, locals := 22 } : Room) s m ([.ref (aM 0)] : List Value).toArray below meth c H locs 0 0 (MQ below (qL G (ty5 cI cJ cZ cO cA) A (wM cI cJ aM row tot tab goa bes tic txt par sav bwh bpr bse len mat ask res.2 ++ ([] : va_W)) res.1) ([.ref (aM 0)] : List Value).toArray s 0 0 A) (F0 m 20 ls []) := by
    intro n
    induction n with
    | zero => intro z3 H locs ls h; cases h
    | succ n ih3 =>
      intro z3 H locs ls h hP hD hS hl
      obtain ⟨o3, h, h3⟩ := lp_s h
      unfold f_X5_digest_b20 at h
      refine lv_iload_n hx hb dX5_digest_20 rfl (lv_at hl 1 rfl) ?_
      refine lv_aload_n hx hb dX5_digest_21 rfl (lv_at hl 0 rfl) ?_
      refine va_get (D := G) (ci := 5) (v := .ref (aM 1)) (C := RX5) (T := TX5) (N := 16) hx hb hts uX5 hown hK hP 0 rfl rfl 0 (by decide) (hts _ kw579) (fun _ h9 => h9) rfl dX5_digest_22 ?_
      refine lv_iconst (v := 0) hx hb dX5_digest_25 (by decide) ?_
      obtain ⟨g4, h⟩ := gd_s h
      refine va_iald hx hb hK hP 1 0 rfl rfl (ib_in g4) dX5_digest_26 ?_
      refine lv_icmp_ge (tgt := 75) hx hb dX5_digest_27 (by decide) (fun c5 => ?_) (fun c5 => ?_)
      · replace h := (if_pos c5).symm.trans h
        rw [← Option.some.inj h] at h3
        exact hX3_0 z3.1 _ _ _ (lp_x h3) hP hD hS (lv_sub hl [0] rfl)
      · replace h := (if_neg c5).symm.trans h
        refine lv_iconst (v := 0) hx hb dX5_digest_30 (by decide) ?_
        refine lv_istore_n (lv' := [(2, .int 0), (0, .ref (aM 0)), (1, .int z3.2)]) hx hb dX5_digest_31 rfl hl (by decide) rfl (fun ls hl => ?_)
        obtain ⟨q6, hq6, h⟩ := bd_s h
        have hX6_0 : ∀ (x6 : Int64) (H : Heap) (locs : List Loc) (ls : Array Slot), x6 = q6 → va_P G vwCl (wM cI cJ aM row tot tab goa bes tic txt par sav bwh bpr bse len mat ask x6 ++ ([] : va_W)) H → va_D A (wM cI cJ aM row tot tab goa bes tic txt par sav bwh bpr bse len mat ask x6 ++ ([] : va_W)) → va_S A s.heap H locs → lv_has ls 3 [(0, .ref (aM 0)), (1, .int z3.2)] → W p l ev ({ frames := 1, cells := 0, slots := 0, locals := 22 } : Room) s m ([.ref (aM 0)] : List Value).toArray below meth c H locs 0 0 (MQ below (qL G (ty5 cI cJ cZ cO cA) A (wM cI cJ aM row tot tab goa bes tic txt par sav bwh bpr bse len mat ask res.2 ++ ([] : va_W)) res.1) ([.ref (aM 0)] : List Value).toArray s 0 0 A) (F0 m 55 ls []) := by
          intro x6 H locs ls e6 hP hD hS hl
          replace e6 := e6.symm
          subst e6
          refine lv_aload_n hx hb dX5_digest_55 rfl (lv_at hl 0 rfl) ?_
          refine lv_aload_n hx hb dX5_digest_56 rfl (lv_at hl 0 rfl) ?_
          refine va_get (D := G) (ci := 5) (v := .ref (aM 1)) (C := RX5) (T := TX5) (N := 16) hx hb hts uX5 hown hK hP 0 rfl rfl 0 (by decide) (hts _ kw579) (fun _ h9 => h9) rfl dX5_digest_57 ?_
          refine lv_bipush (v := 108) hx hb dX5_digest_60 (by decide) ?_
          refine lv_iload_n hx hb dX5_digest_62 rfl (lv_at hl 1 rfl) ?_
          refine lv_iadd hx hb dX5_digest_63 ?_
          obtain ⟨g10, h⟩ := gd_s h
          refine va_iald hx hb hK hP 1 0 rfl rfl (ib_in g10) dX5_digest_64 ?_
          refine lv_i2l (v := (row (108 + z3.2).toNatClampNeg).toInt64) hx hb dX5_digest_65 rfl ?_
          obtain ⟨q11, hq11, h⟩ := bd_s h
          refine kVv (n := 1) (C := RX5) (ws' := wM cI cJ aM row tot tab goa bes tic txt par sav bwh bpr bse len mat ask q11 ++ ([] : va_W)) (As := [.long ((row (108 + z3.2).toNatClampNeg).toInt64)]) (rest := []) hx hb hml hown hts (c_X5_note l G cI cJ cZ cO cA e aM _ row tot tab goa bes tic txt par sav bwh bpr bse len mat ask q6 ((row (108 + z3.2).toNatClampNeg).toInt64) hq11) (tb_V kw917 kw919 kv44 kw7 kw920) rfl rfl (by decide +kernel) ⟨Nat.le_of_ble_eq_true rfl, Nat.le_of_ble_eq_true rfl⟩ hK hP hD hS hA hE 0 rfl rfl [0, 1, 2, 3, 4, 5, 6, 7, 8] [] rfl rfl rfl 9 ⟨rfl, rfl⟩ (by decide +kernel) (by decide +kernel) rfl rfl hl.1 (Nat.le_of_ble_eq_true rfl) ⟨Nat.zero_le _, Nat.zero_le _⟩ dX5_digest_66 (fun H locs hP hD hS => ?_)
          refine lv_iinc (v := (z3.2 + 1)) (lv' := [(1, .int (z3.2 + 1)), (0, .ref (aM 0))]) hx hb dX5_digest_69 hl (k := 1) rfl rfl (by decide) rfl (fun ls hl => ?_)
          refine lv_goto (tgt := 20) hx hb dX5_digest_72 (by decide) ?_
          rw [← Option.some.inj h] at h3
          exact ih3 (q11, (z3.2 + 1)) _ _ _ (lp_b h3) hP hD hS (lv_sub hl [1, 0] rfl)
        have hL6 : ∀ (n : Nat) (z6 : Int64 × Int32) (H : Heap) (locs : List Loc) (ls : Array Slot), lp (f_X5_digest_b32 row z3.2) n z6 = some q6 → va_P G vwCl (wM cI cJ aM row tot tab goa bes tic txt par sav bwh bpr bse len mat ask z6.1 ++ ([] : va_W)) H → va_D A (wM cI cJ aM row tot tab goa bes tic txt par sav bwh bpr bse len mat ask z6.1 ++ ([] : va_W)) → va_S A s.heap H locs → lv_has ls 3 [(0, .ref (aM 0)), (1, .int z3.2), (2, .int z6.2)] → W p l ev ({ frames := 1, cells := 0, slots := 0, locals := 22 } : Room) s m ([.ref (aM 0)] : List Value).toArray below meth c H locs 0 0 (MQ below (qL G (ty5 cI cJ cZ cO cA) A (wM cI cJ aM row tot tab goa bes tic txt par sav bwh bpr bse len mat ask res.2 ++ ([] : va_W)) res.1) ([.ref (aM 0)] : List Value).toArray s 0 0 A) (F0 m 32 ls []) := by
          intro n
          induction n with
          | zero => intro z6 H locs ls h; cases h
          | succ n ih6 =>
            intro z6 H locs ls h hP hD hS hl
            obtain ⟨o6, h, h6⟩ := lp_s h
            unfold f_X5_digest_b32 at h
            refine lv_iload_n hx hb dX5_digest_32 rfl (lv_at hl 2 rfl) ?_
            refine lv_bipush (v := 7) hx hb dX5_digest_33 (by decide) ?_
            refine lv_icmp_ge (tgt := 55) hx hb dX5_digest_35 (by decide) (fun c7 => ?_) (fun c7 => ?_)
            · replace h := (if_pos c7).symm.trans h
              rw [← Option.some.inj h] at h6
              exact hX6_0 z6.1 _ _ _ (lp_x h6) hP hD hS (lv_sub hl [0, 1] rfl)
            · replace h := (if_neg c7).symm.trans h
              refine lv_aload_n hx hb dX5_digest_38 rfl (lv_at hl 0 rfl) ?_
              refine lv_aload_n hx hb dX5_digest_39 rfl (lv_at hl 0 rfl) ?_
              refine lv_iload_n hx hb dX5_digest_40 rfl (lv_at hl 1 rfl) ?_
              refine lv_iload_n hx hb dX5_digest_41 rfl (lv_at hl 2 rfl) ?_
              obtain ⟨q8, hq8, h⟩ := bd_s h
              refine kVi (n := 2) (C := RX5) (ws' := wM cI cJ aM row tot tab goa bes tic txt par sav bwh bpr bse len mat ask z6.1 ++ ([] : va_W)) (As := [.int z3.2, .int z6.2]) (rest := [.ref (aM 0)]) hx hb hml hown hts (c_X5_of l G cI cJ cZ cO cA e aM _ row tot tab goa bes tic txt par sav bwh bpr bse len mat ask z6.1 z3.2 z6.2 hq8) (tb_V kw657 kw659 kv17 kw7 kw660) rfl rfl (by decide +kernel) ⟨Nat.le_of_ble_eq_true rfl, Nat.le_of_ble_eq_true rfl⟩ hK hP hD hS hA hE 0 rfl rfl [0, 1, 2, 3, 4, 5, 6, 7, 8] [] rfl rfl rfl 9 ⟨rfl, rfl⟩ (by decide +kernel) (by decide +kernel) rfl rfl hl.1 (Nat.le_of_ble_eq_true rfl) ⟨Nat.zero_le _, Nat.zero_le _⟩ dX5_digest_42 (fun H locs hP hD hS => ?_)
              refine lv_i2l (v := q8.toInt64) hx hb dX5_digest_45 rfl ?_
              obtain ⟨q9, hq9, h⟩ := bd_s h
              refine kVv (n := 1) (C := RX5) (ws' := wM cI cJ aM row tot tab goa bes tic txt par sav bwh bpr bse len mat ask q9 ++ ([] : va_W)) (As := [.long q8.toInt64]) (rest := []) hx hb hml hown hts (c_X5_note l G cI cJ cZ cO cA e aM _ row tot tab goa bes tic txt par sav bwh bpr bse len mat ask z6.1 q8.toInt64 hq9) (tb_V kw917 kw919 kv44 kw7 kw920) rfl rfl (by decide +kernel) ⟨Nat.le_of_ble_eq_true rfl, Nat.le_of_ble_eq_true rfl⟩ hK hP hD hS hA hE 0 rfl rfl [0, 1, 2, 3, 4, 5, 6, 7, 8] [] rfl rfl rfl 9 ⟨rfl, rfl⟩ (by decide +kernel) (by decide +kernel) rfl rfl hl.1 (Nat.le_of_ble_eq_true rfl) ⟨Nat.zero_le _, Nat.zero_le _⟩ dX5_digest_46 (fun H locs hP hD hS => ?_)
              refine lv_iinc (v := (z6.2 + 1)) (lv' := [(2, .int (z6.2 + 1)), (0, .ref (aM 0)), (1, .int z3.2)]) hx hb dX5_digest_49 hl (k := 2) rfl rfl (by decide) rfl (fun ls hl => ?_)
              refine lv_goto (tgt := 32) hx hb dX5_digest_52 (by decide) ?_
              rw [← Option.some.inj h] at h6
              exact ih6 (q9, (z6.2 + 1)) _ _ _ (lp_b h6) hP hD hS (lv_sub hl [1, 2, 0] rfl)
        exact hL6 _ (z3.1, 0) _ _ _ hq6 hP hD hS (lv_sub hl [1, 2, 0] rfl)
  exact hL3 _ (q2, 0) _ _ _ hq3 hP hD hS (lv_sub hl [1, 0] rfl)

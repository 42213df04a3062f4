/-! X1_consider -/
def f_X1_consider_j239 (sh : Nat → Int64) (de : Int64) (co : Int64) (ma : Int32) (fo : Int32) (v2 : Int32) (v3 : Int32) (v4 : Int32) (v5 : Int64) (v8 : Int64) (v10 : Int64) (v12 : Int64) (v14 : Int32) (v15 : Int64) : Option ((Nat → Int64) × Int64 × Int64 × Int32 × Int32) :=
  (f_X1_clear sh de co ma fo).bind (fun q30 => gd (ib v2 8) (gd (ib v3 8) (gd (ib v4 8) (some ((vp_updL (vp_updL (vp_updL q30.1 v2.toNatClampNeg v8) v3.toNatClampNeg v10) v4.toNatClampNeg v12), v5, v15, v14, 1)))))
def f_X1_consider_j160 (tp : Nat → Int32) (sh : Nat → Int64) (de : Int64) (co : Int64) (ma : Int32) (ru : Int32) (fo : Int32) (se : Nat → Int32) (sc : Int32) (v2 : Int32) (v3 : Int32) (v4 : Int32) (v5 : Int64) (v8 : Int64) (v10 : Int64) (v12 : Int64) (t0 : Int32) (t1 : Int32) : Option ((Nat → Int64) × Int64 × Int64 × Int32 × Int32) :=
  (f_X1_bitIf t0 v4).bind (fun q22 => (f_X2_forbids se sc ((t1 ||| q22) ||| ru)).bind (fun q23 => if q23 = 0 then (gd (ib v2 8) (gd (ib v3 8) (gd (ib v4 8) (if fo = 0 then (f_X1_consider_j239 sh de co ma fo v2 v3 v4 v5 v8 v10 v12 (t1 ||| q22) (((v8 * ((tp v2.toNatClampNeg).toInt64)) + (v10 * ((tp v3.toNatClampNeg).toInt64))) + (v12 * ((tp v4.toNatClampNeg).toInt64)))) else ((f_X1_isBetter de co ma (((v8 * ((tp v2.toNatClampNeg).toInt64)) + (v10 * ((tp v3.toNatClampNeg).toInt64))) + (v12 * ((tp v4.toNatClampNeg).toInt64))) v5 (t1 ||| q22)).bind (fun q34 => if q34 = 0 then (some (sh, de, co, ma, fo)) else (f_X1_consider_j239 sh de co ma fo v2 v3 v4 v5 v8 v10 v12 (t1 ||| q22) (((v8 * ((tp v2.toNatClampNeg).toInt64)) + (v10 * ((tp v3.toNatClampNeg).toInt64))) + (v12 * ((tp v4.toNatClampNeg).toInt64)))))))))) else (some (sh, de, co, ma, fo))))
def f_X1_consider_j143 (tp : Nat → Int32) (sh : Nat → Int64) (de : Int64) (co : Int64) (ma : Int32) (ru : Int32) (fo : Int32) (se : Nat → Int32) (sc : Int32) (v2 : Int32) (v3 : Int32) (v4 : Int32) (v5 : Int64) (v8 : Int64) (v10 : Int64) (v12 : Int64) (t0 : Int32) (t1 : Int32) : Option ((Nat → Int64) × Int64 × Int64 × Int32 × Int32) :=
  (f_X1_bitIf t0 v3).bind (fun q19 => if (lg_cmp v12 0) ≤ 0 then (f_X1_consider_j160 tp sh de co ma ru fo se sc v2 v3 v4 v5 v8 v10 v12 0 (t1 ||| q19)) else (f_X1_consider_j160 tp sh de co ma ru fo se sc v2 v3 v4 v5 v8 v10 v12 1 (t1 ||| q19)))
def f_X1_consider_j127 (tp : Nat → Int32) (sh : Nat → Int64) (de : Int64) (co : Int64) (ma : Int32) (ru : Int32) (fo : Int32) (se : Nat → Int32) (sc : Int32) (v2 : Int32) (v3 : Int32) (v4 : Int32) (v5 : Int64) (v8 : Int64) (v10 : Int64) (v12 : Int64) (t0 : Int32) : Option ((Nat → Int64) × Int64 × Int64 × Int32 × Int32) :=
  (f_X1_bitIf t0 v2).bind (fun q16 => if (lg_cmp v10 0) ≤ 0 then (f_X1_consider_j143 tp sh de co ma ru fo se sc v2 v3 v4 v5 v8 v10 v12 0 q16) else (f_X1_consider_j143 tp sh de co ma ru fo se sc v2 v3 v4 v5 v8 v10 v12 1 q16))
def f_X1_consider_j30 (un : Nat → Nat → Int32) (tp : Nat → Int32) (sh : Nat → Int64) (de : Int64) (co : Int64) (ma : Int32) (ru : Int32) (fo : Int32) (se : Nat → Int32) (sc : Int32) (v2 : Int32) (v3 : Int32) (v4 : Int32) (v5 : Int64) (t0 : Int32) : Option ((Nat → Int64) × Int64 × Int64 × Int32 × Int32) :=
  (f_X1_determinantOf un 8 v3 v4).bind (fun q5 => (f_X1_determinantOf un v2 8 v4).bind (fun q6 => (f_X1_determinantOf un v2 v3 8).bind (fun q7 => (f_X1_isPossible (t0.toInt64 * q5) (v5 * t0.toInt64)).bind (fun q8 => if q8 = 0 then (some (sh, de, co, ma, fo)) else ((f_X1_isPossible (t0.toInt64 * q6) (v5 * t0.toInt64)).bind (fun q10 => if q10 = 0 then (some (sh, de, co, ma, fo)) else ((f_X1_isPossible (t0.toInt64 * q7) (v5 * t0.toInt64)).bind (fun q12 => if q12 = 0 then (some (sh, de, co, ma, fo)) else (if (lg_cmp (t0.toInt64 * q5) 0) ≤ 0 then (f_X1_consider_j127 tp sh de co ma ru fo se sc v2 v3 v4 (v5 * t0.toInt64) (t0.toInt64 * q5) (t0.toInt64 * q6) (t0.toInt64 * q7) 0) else (f_X1_consider_j127 tp sh de co ma ru fo se sc v2 v3 v4 (v5 * t0.toInt64) (t0.toInt64 * q5) (t0.toInt64 * q6) (t0.toInt64 * q7) 1))))))))))
def f_X1_consider (un : Nat → Nat → Int32) (tp : Nat → Int32) (ru : Int32) (se : Nat → Int32) (sc : Int32) (sh : Nat → Int64) (de : Int64) (co : Int64) (ma : Int32) (fo : Int32) (p1 : Int32) (p2 : Int32) (p3 : Int32) : Option ((Nat → Int64) × Int64 × Int64 × Int32 × Int32) :=
  (f_X1_determinantOf un p1 p2 p3).bind (fun q1 => if (lg_cmp q1 0) = 0 then (some (sh, de, co, ma, fo)) else (if 0 ≤ (lg_cmp q1 0) then (f_X1_consider_j30 un tp sh de co ma ru fo se sc p1 p2 p3 q1 1) else (f_X1_consider_j30 un tp sh de co ma ru fo se sc p1 p2 p3 q1 (-1))))

set_option maxHeartbeats 4000000 in
set_option maxRecDepth 100000 in
theorem c_X1_consider (l : Launch) (G : va_G) (cI cJ cZ cO cA : ClassId) (e : Nat × Nat) (aE : Nat → Nat) (aR : Nat → Nat) (aS : Nat → Nat) (sz : Nat) (un : Nat → Nat → Int32) (tp : Nat → Int32) (sh : Nat → Int64) (de : Int64) (co : Int64) (ma : Int32) (ru : Int32) (fo : Int32) (pr : Nat → Int32) (pu : Nat → Int32) (ta : Nat → Int32) (se : Nat → Int32) (qu : Nat → Int32) (im : Nat → Int32) (su : Nat → Int64) (tc : Int32) (sc : Int32) (rc : Int32) (cn : Int32) (so : Int32) (p1 : Int32) (p2 : Int32) (p3 : Int32) {res : (Nat → Int64) × Int64 × Int64 × Int32 × Int32} (hf : f_X1_consider un tp ru se sc sh de co ma fo p1 p2 p3 = some res) : MetV l yX1_consider cX1_consider 17 ({ frames := 2, cells := 0, slots := 0, locals := 44 } : Room) [.ref (aE 0), .ref (aS 0), .int p1, .int p2, .int p3] G (ty5 cI cJ cZ cO cA) e (wE cI cJ cA aE aR un tp sh de co ma ru fo ++ (wS cI cJ aS pr pu ta se qu im su tc sc rc cn so ++ ([] : va_W))) (wE cI cJ cA aE aR un tp res.1 res.2.1 res.2.2.1 res.2.2.2.1 ru res.2.2.2.2 ++ (wS cI cJ aS pr pu ta se qu im su tc sc rc cn so ++ ([] : va_W))) sz := by
  refine g_body (QQ := fun A => (qV G (ty5 cI cJ cZ cO cA) A (wE cI cJ cA aE aR un tp res.1 res.2.1 res.2.2.1 res.2.2.2.1 ru res.2.2.2.2 ++ (wS cI cJ aS pr pu ta se qu im su tc sc rc cn so ++ ([] : va_W))))) (own := RX1) (by decide) rfl (Nat.le_of_ble_eq_true rfl) ?_
  intro p ev s m below meth c A ls hx hb hr hml hown hts hlk hA hP hD hS hK hE hl
  have hl : lv_has ls 17 [(0, .ref (aE 0)), (1, .ref (aS 0)), (2, .int p1), (3, .int p2), (4, .int p3)] := hl
  show W p l ev ({ frames := 2, cells := 0, slots := 0, locals := 44 } : Room) s m ([.ref (aE 0), .ref (aS 0), .int p1, .int p2, .int p3] : List Value).toArray below meth c s.heap [] 0 0 (MQ below (qV G (ty5 cI cJ cZ cO cA) A (wE cI cJ cA aE aR un tp res.1 res.2.1 res.2.2.1 res.2.2.2.1 ru res.2.2.2.2 ++ (wS cI cJ aS pr pu ta se qu im su tc sc rc cn so ++ ([] : va_W)))) ([.ref (aE 0), .ref (aS 0), .int p1, .int p2, .int p3] : List Value).toArray s 0 0 A) (F0 m 0 ls [])
  have h := hf
  unfold f_X1_consider at h
  refine lv_aload_n hx hb dX1_consider_0 rfl (lv_at hl 0 rfl) ?_
  refine lv_iload_n hx hb dX1_consider_1 rfl (lv_at hl 2 rfl) ?_
  refine lv_iload_n hx hb dX1_consider_2 rfl (lv_at hl 3 rfl) ?_
  refine lv_iload hx hb dX1_consider_3 (lv_at hl 4 rfl) ?_
  obtain ⟨q1, hq1, h⟩ := bd_s h
  refine kVl (n := 3) (C := RX1) (ws' := wE cI cJ cA aE aR un tp sh de co ma ru fo ++ (wS cI cJ aS pr pu ta se qu im su tc sc rc cn so ++ ([] : va_W))) (As := [.int p1, .int p2, .int p3]) (rest := []) hx hb hml hown hts (c_X1_determinantOf l G cI cJ cZ cO cA e aE aR _ un tp sh de co ma ru fo p1 p2 p3 hq1) (tb_V kw320 kw258 kw259 kw5 kw260) rfl rfl (by decide +kernel) ⟨Nat.le_of_ble_eq_true rfl, Nat.le_of_ble_eq_true rfl⟩ hK hP hD hS hA hE 0 rfl rfl [0, 1, 2, 3, 4, 5, 6, 7, 8, 9, 10, 11, 12] [13, 14, 15, 16, 17, 18, 19, 20] rfl rfl rfl 21 ⟨rfl, rfl⟩ (by decide +kernel) (by decide +kernel) rfl rfl hl.1 (Nat.le_of_ble_eq_true rfl) ⟨Nat.zero_le _, Nat.zero_le _⟩ dX1_consider_5 (fun H locs hP hD hS => ?_)
  refine lv_lstore (lv' := [(5, .long q1), (0, .ref (aE 0)), (1, .ref (aS 0)), (2, .int p1), (3, .int p2), (4, .int p3)]) hx hb dX1_consider_8 hl (by decide) rfl (fun ls hl => ?_)
  refine lv_lload hx hb dX1_consider_10 (lv_at hl 0 rfl) ?_
  refine lv_lconst (v := 0) hx hb dX1_consider_12 (by decide) ?_
  refine W.lcmp hx hb dX1_consider_13 ?_
  refine lv_if_ne (tgt := 18) hx hb dX1_consider_14 (by decide) (fun c2 => ?_) (fun c2 => ?_)
  · replace h := (if_neg c2).symm.trans h
    refine lv_lload hx hb dX1_consider_18 (lv_at hl 0 rfl) ?_
    refine lv_lconst (v := 0) hx hb dX1_consider_20 (by decide) ?_
    refine W.lcmp hx hb dX1_consider_21 ?_
    have hJ4 : ∀ (sh_4 : Nat → Int64) (de_4 : Int64) (co_4 : Int64) (ma_4 : Int32) (fo_4 : Int32) (v5_4 : Int64) (t0_4 : Int32) (H : Heap) (locs : List Loc) (ls : Array Slot), f_X1_consider_j30 un tp sh_4 de_4 co_4 ma_4 ru fo_4 se sc p1 p2 p3 v5_4 t0_4 = some res → va_P G vwCl (wE cI cJ cA aE aR un tp sh_4 de_4 co_4 ma_4 ru fo_4 ++ (wS cI cJ aS pr pu ta se qu im su tc sc rc cn so ++ ([] : va_W))) H → va_D A (wE cI cJ cA aE aR un tp sh_4 de_4 co_4 ma_4 ru fo_4 ++ (wS cI cJ aS pr pu ta se qu im su tc sc rc cn so ++ ([] : va_W))) → va_S A s.heap H locs → lv_has ls 17 [(0, .ref (aE 0)), (1, .ref (aS 0)), (2, .int p1), (3, .int p2), (4, .int p3), (5, .long v5_4)] → W p l ev ({ frames := 2, cells := 0, slots := 0, locals := 44 } : Room) s m ([.ref (aE 0), .ref (aS 0), .int p1, .int p2, .int p3] : List Value).toArray below meth c H locs 0 0 (MQ below (qV G (ty5 cI cJ cZ cO cA) A (wE cI cJ cA aE aR un tp res.1 res.2.1 res.2.2.1 res.2.2.2.1 ru res.2.2.2.2 ++ (wS cI cJ aS pr pu ta se qu im su tc sc rc cn so ++ ([] : va_W)))) ([.ref (aE 0), .ref (aS 0), .int p1, .int p2, .int p3] : List Value).toArray s 0 0 A) (F0 m 30 ls [.int t0_4]) := by
      intro sh_4 de_4 co_4 ma_4 fo_4 v5_4 t0_4 H locs ls h hP hD hS hl
      unfold f_X1_consider_j30 at h
      refine lv_istore (lv' := [(7, .int t0_4), (0, .ref (aE 0)), (1, .ref (aS 0)), (2, .int p1), (3, .int p2), (4, .int p3), (5, .long v5_4)]) hx hb dX1_consider_30 hl (by decide) rfl (fun ls hl => ?_)
      refine lv_lload hx hb dX1_consider_32 (lv_at hl 6 rfl) ?_
      refine lv_iload hx hb dX1_consider_34 (lv_at hl 0 rfl) ?_
      refine lv_i2l (v := t0_4.toInt64) hx hb dX1_consider_36 rfl ?_
      refine lv_lmul hx hb dX1_consider_37 ?_
      refine lv_lstore (lv' := [(5, .long (v5_4 * t0_4.toInt64)), (7, .int t0_4), (0, .ref (aE 0)), (1, .ref (aS 0)), (2, .int p1), (3, .int p2), (4, .int p3)]) hx hb dX1_consider_38 hl (by decide) rfl (fun ls hl => ?_)
      refine lv_iload hx hb dX1_consider_40 (lv_at hl 1 rfl) ?_
      refine lv_i2l (v := t0_4.toInt64) hx hb dX1_consider_42 rfl ?_
      refine lv_aload_n hx hb dX1_consider_43 rfl (lv_at hl 2 rfl) ?_
      refine lv_bipush (v := 8) hx hb dX1_consider_44 (by decide) ?_
      refine lv_iload_n hx hb dX1_consider_46 rfl (lv_at hl 5 rfl) ?_
      refine lv_iload hx hb dX1_consider_47 (lv_at hl 6 rfl) ?_
      obtain ⟨q5, hq5, h⟩ := bd_s h
      refine kVl (n := 3) (C := RX1) (ws' := wE cI cJ cA aE aR un tp sh_4 de_4 co_4 ma_4 ru fo_4 ++ (wS cI cJ aS pr pu ta se qu im su tc sc rc cn so ++ ([] : va_W))) (As := [.int 8, .int p2, .int p3]) (rest := [.long t0_4.toInt64]) hx hb hml hown hts (c_X1_determinantOf l G cI cJ cZ cO cA e aE aR _ un tp sh_4 de_4 co_4 ma_4 ru fo_4 8 p2 p3 hq5) (tb_V kw320 kw258 kw259 kw5 kw260) rfl rfl (by decide +kernel) ⟨Nat.le_of_ble_eq_true rfl, Nat.le_of_ble_eq_true rfl⟩ hK hP hD hS hA hE 0 rfl rfl [0, 1, 2, 3, 4, 5, 6, 7, 8, 9, 10, 11, 12] [13, 14, 15, 16, 17, 18, 19, 20] rfl rfl rfl 21 ⟨rfl, rfl⟩ (by decide +kernel) (by decide +kernel) rfl rfl hl.1 (Nat.le_of_ble_eq_true rfl) ⟨Nat.zero_le _, Nat.zero_le _⟩ dX1_consider_49 (fun H locs hP hD hS => ?_)
      refine lv_lmul hx hb dX1_consider_52 ?_
      refine lv_lstore (lv' := [(8, .long (t0_4.toInt64 * q5)), (5, .long (v5_4 * t0_4.toInt64)), (7, .int t0_4), (0, .ref (aE 0)), (1, .ref (aS 0)), (2, .int p1), (3, .int p2), (4, .int p3)]) hx hb dX1_consider_53 hl (by decide) rfl (fun ls hl => ?_)
      refine lv_iload hx hb dX1_consider_55 (lv_at hl 2 rfl) ?_
      refine lv_i2l (v := t0_4.toInt64) hx hb dX1_consider_57 rfl ?_
      refine lv_aload_n hx hb dX1_consider_58 rfl (lv_at hl 3 rfl) ?_
      refine lv_iload_n hx hb dX1_consider_59 rfl (lv_at hl 5 rfl) ?_
      refine lv_bipush (v := 8) hx hb dX1_consider_60 (by decide) ?_
      refine lv_iload hx hb dX1_consider_62 (lv_at hl 7 rfl) ?_
      obtain ⟨q6, hq6, h⟩ := bd_s h
      refine kVl (n := 3) (C := RX1) (ws' := wE cI cJ cA aE aR un tp sh_4 de_4 co_4 ma_4 ru fo_4 ++ (wS cI cJ aS pr pu ta se qu im su tc sc rc cn so ++ ([] : va_W))) (As := [.int p1, .int 8, .int p3]) (rest := [.long t0_4.toInt64]) hx hb hml hown hts (c_X1_determinantOf l G cI cJ cZ cO cA e aE aR _ un tp sh_4 de_4 co_4 ma_4 ru fo_4 p1 8 p3 hq6) (tb_V kw320 kw258 kw259 kw5 kw260) rfl rfl (by decide +kernel) ⟨Nat.le_of_ble_eq_true rfl, Nat.le_of_ble_eq_true rfl⟩ hK hP hD hS hA hE 0 rfl rfl [0, 1, 2, 3, 4, 5, 6, 7, 8, 9, 10, 11, 12] [13, 14, 15, 16, 17, 18, 19, 20] rfl rfl rfl 21 ⟨rfl, rfl⟩ (by decide +kernel) (by decide +kernel) rfl rfl hl.1 (Nat.le_of_ble_eq_true rfl) ⟨Nat.zero_le _, Nat.zero_le _⟩ dX1_consider_64 (fun H locs hP hD hS => ?_)
      refine lv_lmul hx hb dX1_consider_67 ?_
      refine lv_lstore (lv' := [(10, .long (t0_4.toInt64 * q6)), (8, .long (t0_4.toInt64 * q5)), (5, .long (v5_4 * t0_4.toInt64)), (7, .int t0_4), (0, .ref (aE 0)), (1, .ref (aS 0)), (2, .int p1), (3, .int p2), (4, .int p3)]) hx hb dX1_consider_68 hl (by decide) rfl (fun ls hl => ?_)
      refine lv_iload hx hb dX1_consider_70 (lv_at hl 3 rfl) ?_
      refine lv_i2l (v := t0_4.toInt64) hx hb dX1_consider_72 rfl ?_
      refine lv_aload_n hx hb dX1_consider_73 rfl (lv_at hl 4 rfl) ?_
      refine lv_iload_n hx hb dX1_consider_74 rfl (lv_at hl 6 rfl) ?_
      refine lv_iload_n hx hb dX1_consider_75 rfl (lv_at hl 7 rfl) ?_
      refine lv_bipush (v := 8) hx hb dX1_consider_76 (by decide) ?_
      obtain ⟨q7, hq7, h⟩ := bd_s h
      refine kVl (n := 3) (C := RX1) (ws' := wE cI cJ cA aE aR un tp sh_4 de_4 co_4 ma_4 ru fo_4 ++ (wS cI cJ aS pr pu ta se qu im su tc sc rc cn so ++ ([] : va_W))) (As := [.int p1, .int p2, .int 8]) (rest := [.long t0_4.toInt64]) hx hb hml hown hts (c_X1_determinantOf l G cI cJ cZ cO cA e aE aR _ un tp sh_4 de_4 co_4 ma_4 ru fo_4 p1 p2 8 hq7) (tb_V kw320 kw258 kw259 kw5 kw260) rfl rfl (by decide +kernel) ⟨Nat.le_of_ble_eq_true rfl, Nat.le_of_ble_eq_true rfl⟩ hK hP hD hS hA hE 0 rfl rfl [0, 1, 2, 3, 4, 5, 6, 7, 8, 9, 10, 11, 12] [13, 14, 15, 16, 17, 18, 19, 20] rfl rfl rfl 21 ⟨rfl, rfl⟩ (by decide +kernel) (by decide +kernel) rfl rfl hl.1 (Nat.le_of_ble_eq_true rfl) ⟨Nat.zero_le _, Nat.zero_le _⟩ dX1_consider_78 (fun H locs hP hD hS => ?_)
      refine lv_lmul hx hb dX1_consider_81 ?_
      refine lv_lstore (lv' := [(12, .long (t0_4.toInt64 * q7)), (10, .long (t0_4.toInt64 * q6)), (8, .long (t0_4.toInt64 * q5)), (5, .long (v5_4 * t0_4.toInt64)), (7, .int t0_4), (0, .ref (aE 0)), (1, .ref (aS 0)), (2, .int p1), (3, .int p2), (4, .int p3)]) hx hb dX1_consider_82 hl (by decide) rfl (fun ls hl => ?_)
      refine lv_lload hx hb dX1_consider_84 (lv_at hl 2 rfl) ?_
      refine lv_lload hx hb dX1_consider_86 (lv_at hl 3 rfl) ?_
      obtain ⟨q8, hq8, h⟩ := bd_s h
      refine kSi (n := 2) (As := [.long (t0_4.toInt64 * q5), .long (v5_4 * t0_4.toInt64)]) (rest := []) hx hb hml hown hts (c_X1_isPossible l G cI cJ cZ cO cA e _ (t0_4.toInt64 * q5) (v5_4 * t0_4.toInt64) hq8) (tb_S kw321 kw322 kw5 kw323) rfl rfl (by decide +kernel) ⟨Nat.le_of_ble_eq_true rfl, Nat.le_of_ble_eq_true rfl⟩ hK hP hD hS hA hE rfl rfl hl.1 (Nat.le_of_ble_eq_true rfl) ⟨Nat.zero_le _, Nat.zero_le _⟩ dX1_consider_88 (fun H locs hP hD hS => ?_)
      refine lv_if_eq (tgt := 114) hx hb dX1_consider_91 (by decide) (fun c9 => ?_) (fun c9 => ?_)
      · replace h := (if_pos c9).symm.trans h
        rw [← Option.some.inj h]
        exact krv hx hb hr hlk hP hD hS hK dX1_consider_114
      · replace h := (if_neg c9).symm.trans h
        refine lv_lload hx hb dX1_consider_94 (lv_at hl 1 rfl) ?_
        refine lv_lload hx hb dX1_consider_96 (lv_at hl 3 rfl) ?_
        obtain ⟨q10, hq10, h⟩ := bd_s h
        refine kSi (n := 2) (As := [.long (t0_4.toInt64 * q6), .long (v5_4 * t0_4.toInt64)]) (rest := []) hx hb hml hown hts (c_X1_isPossible l G cI cJ cZ cO cA e _ (t0_4.toInt64 * q6) (v5_4 * t0_4.toInt64) hq10) (tb_S kw321 kw322 kw5 kw323) rfl rfl (by decide +kernel) ⟨Nat.le_of_ble_eq_true rfl, Nat.le_of_ble_eq_true rfl⟩ hK hP hD hS hA hE rfl rfl hl.1 (Nat.le_of_ble_eq_true rfl) ⟨Nat.zero_le _, Nat.zero_le _⟩ dX1_consider_98 (fun H locs hP hD hS => ?_)
        refine lv_if_eq (tgt := 114) hx hb dX1_consider_101 (by decide) (fun c11 => ?_) (fun c11 => ?_)
        · replace h := (if_pos c11).symm.trans h
          rw [← Option.some.inj h]
          exact krv hx hb hr hlk hP hD hS hK dX1_consider_114
        · replace h := (if_neg c11).symm.trans h
          refine lv_lload hx hb dX1_consider_104 (lv_at hl 0 rfl) ?_
          refine lv_lload hx hb dX1_consider_106 (lv_at hl 3 rfl) ?_
          obtain ⟨q12, hq12, h⟩ := bd_s h
          refine kSi (n := 2) (As := [.long (t0_4.toInt64 * q7), .long (v5_4 * t0_4.toInt64)]) (rest := []) hx hb hml hown hts (c_X1_isPossible l G cI cJ cZ cO cA e _ (t0_4.toInt64 * q7) (v5_4 * t0_4.toInt64) hq12) (tb_S kw321 kw322 kw5 kw323) rfl rfl (by decide +kernel) ⟨Nat.le_of_ble_eq_true rfl, Nat.le_of_ble_eq_true rfl⟩ hK hP hD hS hA hE rfl rfl hl.1 (Nat.le_of_ble_eq_true rfl) ⟨Nat.zero_le _, Nat.zero_le _⟩ dX1_consider_108 (fun H locs hP hD hS => ?_)
          refine lv_if_ne (tgt := 115) hx hb dX1_consider_111 (by decide) (fun c13 => ?_) (fun c13 => ?_)
          · replace h := (if_neg c13).symm.trans h
            refine lv_lload hx hb dX1_consider_115 (lv_at hl 2 rfl) ?_
            refine lv_lconst (v := 0) hx hb dX1_consider_117 (by decide) ?_
            refine W.lcmp hx hb dX1_consider_118 ?_
            have hJ15 : ∀ (sh_15 : Nat → Int64) (de_15 : Int64) (co_15 : Int64) (ma_15 : Int32) (fo_15 : Int32) (v5_15 : Int64) (v8_15 : Int64) (v10_15 : Int64) (v12_15 : Int64) (t0_15 : Int32) (H : Heap) (locs : List Loc) (ls : Array Slot), f_X1_consider_j127 tp sh_15 de_15 co_15 ma_15 ru fo_15 se sc p1 p2 p3 v5_15 v8_15 v10_15 v12_15 t0_15 = some res → va_P G vwCl (wE cI cJ cA aE aR un tp sh_15 de_15 co_15 ma_15 ru fo_15 ++ (wS cI cJ aS pr pu ta se qu im su tc sc rc cn so ++ ([] : va_W))) H → va_D A (wE cI cJ cA aE aR un tp sh_15 de_15 co_15 ma_15 ru fo_15 ++ (wS cI cJ aS pr pu ta se qu im su tc sc rc cn so ++ ([] : va_W))) → va_S A s.heap H locs → lv_has ls 17 [(0, .ref (aE 0)), (1, .ref (aS 0)), (2, .int p1), (3, .int p2), (4, .int p3), (5, .long v5_15), (8, .long v8_15), (10, .long v10_15), (12, .long v12_15)] → W p l ev ({ frames := 2, cells := 0, slots := 0, locals := 44 } : Room) s m ([.ref (aE 0), .ref (aS 0), .int p1, .int p2, .int p3] : List Value).toArray below meth c H locs 0 0 (MQ below (qV G (ty5 cI cJ cZ cO cA) A (wE cI cJ cA aE aR un tp res.1 res.2.1 res.2.2.1 res.2.2.2.1 ru res.2.2.2.2 ++ (wS cI cJ aS pr pu ta se qu im su tc sc rc cn so ++ ([] : va_W)))) ([.ref (aE 0), .ref (aS 0), .int p1, .int p2, .int p3] : List Value).toArray s 0 0 A) (F0 m 127 ls [.int t0_15]) := by
              intro sh_15 de_15 co_15 ma_15 fo_15 v5_15 v8_15 v10_15 v12_15 t0_15 H locs ls h hP hD hS hl
              unfold f_X1_consider_j127 at h
              refine lv_iload_n hx hb dX1_consider_127 rfl (lv_at hl 2 rfl) ?_
              obtain ⟨q16, hq16, h⟩ := bd_s h
              refine kSi (n := 2) (As := [.int t0_15, .int p1]) (rest := []) hx hb hml hown hts (c_X1_bitIf l G cI cJ cZ cO cA e _ t0_15 p1 hq16) (tb_S kw325 kw326 kw5 kw327) rfl rfl (by decide +kernel) ⟨Nat.le_of_ble_eq_true rfl, Nat.le_of_ble_eq_true rfl⟩ hK hP hD hS hA hE rfl rfl hl.1 (Nat.le_of_ble_eq_true rfl) ⟨Nat.zero_le _, Nat.zero_le _⟩ dX1_consider_128 (fun H locs hP hD hS => ?_)
              refine lv_lload hx hb dX1_consider_131 (lv_at hl 7 rfl) ?_
              refine lv_lconst (v := 0) hx hb dX1_consider_133 (by decide) ?_
              refine W.lcmp hx hb dX1_consider_134 ?_
              have hJ18 : ∀ (sh_18 : Nat → Int64) (de_18 : Int64) (co_18 : Int64) (ma_18 : Int32) (fo_18 : Int32) (v5_18 : Int64) (v8_18 : Int64) (v10_18 : Int64) (v12_18 : Int64) (t0_18 : Int32) (t1_18 : Int32) (H : Heap) (locs : List Loc) (ls : Array Slot), f_X1_consider_j143 tp sh_18 de_18 co_18 ma_18 ru fo_18 se sc p1 p2 p3 v5_18 v8_18 v10_18 v12_18 t0_18 t1_18 = some res → va_P G vwCl (wE cI cJ cA aE aR un tp sh_18 de_18 co_18 ma_18 ru fo_18 ++ (wS cI cJ aS pr pu ta se qu im su tc sc rc cn so ++ ([] : va_W))) H → va_D A (wE cI cJ cA aE aR un tp sh_18 de_18 co_18 ma_18 ru fo_18 ++ (wS cI cJ aS pr pu ta se qu im su tc sc rc cn so ++ ([] : va_W))) → va_S A s.heap H locs → lv_has ls 17 [(0, .ref (aE 0)), (1, .ref (aS 0)), (2, .int p1), (3, .int p2), (4, .int p3), (5, .long v5_18), (8, .long v8_18), (10, .long v10_18), (12, .long v12_18)] → W p l ev ({ frames := 2, cells := 0, slots := 0, locals := 44 } : Room) s m ([.ref (aE 0), .ref (aS 0), .int p1, .int p2, .int p3] : List Value).toArray below meth c H locs 0 0 (MQ below (qV G (ty5 cI cJ cZ cO cA) A (wE cI cJ cA aE aR un tp res.1 res.2.1 res.2.2.1 res.2.2.2.1 ru res.2.2.2.2 ++ (wS cI cJ aS pr pu ta se qu im su tc sc rc cn so ++ ([] : va_W)))) ([.ref (aE 0), .ref (aS 0), .int p1, .int p2, .int p3] : List Value).toArray s 0 0 A) (F0 m 143 ls [.int t0_18, .int t1_18]) := by
                intro sh_18 de_18 co_18 ma_18 fo_18 v5_18 v8_18 v10_18 v12_18 t0_18 t1_18 H locs ls h hP hD hS hl
                unfold f_X1_consider_j143 at h
                refine lv_iload_n hx hb dX1_consider_143 rfl (lv_at hl 3 rfl) ?_
                obtain ⟨q19, hq19, h⟩ := bd_s h
                refine kSi (n := 2) (As := [.int t0_18, .int p2]) (rest := [.int t1_18]) hx hb hml hown hts (c_X1_bitIf l G cI cJ cZ cO cA e _ t0_18 p2 hq19) (tb_S kw325 kw326 kw5 kw327) rfl rfl (by decide +kernel) ⟨Nat.le_of_ble_eq_true rfl, Nat.le_of_ble_eq_true rfl⟩ hK hP hD hS hA hE rfl rfl hl.1 (Nat.le_of_ble_eq_true rfl) ⟨Nat.zero_le _, Nat.zero_le _⟩ dX1_consider_144 (fun H locs hP hD hS => ?_)
                refine lv_ior hx hb dX1_consider_147 ?_
                refine lv_lload hx hb dX1_consider_148 (lv_at hl 8 rfl) ?_
                refine lv_lconst (v := 0) hx hb dX1_consider_150 (by decide) ?_
                refine W.lcmp hx hb dX1_consider_151 ?_
                have hJ21 : ∀ (sh_21 : Nat → Int64) (de_21 : Int64) (co_21 : Int64) (ma_21 : Int32) (fo_21 : Int32) (v5_21 : Int64) (v8_21 : Int64) (v10_21 : Int64) (v12_21 : Int64) (t0_21 : Int32) (t1_21 : Int32) (H : Heap) (locs : List Loc) (ls : Array Slot), f_X1_consider_j160 tp sh_21 de_21 co_21 ma_21 ru fo_21 se sc p1 p2 p3 v5_21 v8_21 v10_21 v12_21 t0_21 t1_21 = some res → va_P G vwCl (wE cI cJ cA aE aR un tp sh_21 de_21 co_21 ma_21 ru fo_21 ++ (wS cI cJ aS pr pu ta se qu im su tc sc rc cn so ++ ([] : va_W))) H → va_D A (wE cI cJ cA aE aR un tp sh_21 de_21 co_21 ma_21 ru fo_21 ++ (wS cI cJ aS pr pu ta se qu im su tc sc rc cn so ++ ([] : va_W))) → va_S A s.heap H locs → lv_has ls 17 [(0, .ref (aE 0)), (1, .ref (aS 0)), (2, .int p1), (3, .int p2), (4, .int p3), (5, .long v5_21), (8, .long v8_21), (10, .long v10_21), (12, .long v12_21)] → W p l ev ({ frames := 2, cells := 0, slots := 0, locals := 44 } : Room) s m ([.ref (aE 0), .ref (aS 0), .int p1, .int p2, .int p3] : List Value).toArray below meth c H locs 0 0 (MQ below (qV G (ty5 cI cJ cZ cO cA) A (wE cI cJ cA aE aR un tp res.1 res.2.1 res.2.2.1 res.2.2.2.1 ru res.2.2.2.2 ++ (wS cI cJ aS pr pu ta se qu im su tc sc rc cn so ++ ([] : va_W)))) ([.ref (aE 0), .ref (aS 0), .int p1, .int p2, .int p3] : List Value).toArray s 0 0 A) (F0 m 160 ls [.int t0_21, .int t1_21]) := by
                  intro sh_21 de_21 co_21 ma_21 fo_21 v5_21 v8_21 v10_21 v12_21 t0_21 t1_21 H locs ls h hP hD hS hl
                  unfold f_X1_consider_j160 at h
                  refine lv_iload hx hb dX1_consider_160 (lv_at hl 4 rfl) ?_
                  obtain ⟨q22, hq22, h⟩ := bd_s h
                  refine kSi (n := 2) (As := [.int t0_21, .int p3]) (rest := [.int t1_21]) hx hb hml hown hts (c_X1_bitIf l G cI cJ cZ cO cA e _ t0_21 p3 hq22) (tb_S kw325 kw326 kw5 kw327) rfl rfl (by decide +kernel) ⟨Nat.le_of_ble_eq_true rfl, Nat.le_of_ble_eq_true rfl⟩ hK hP hD hS hA hE rfl rfl hl.1 (Nat.le_of_ble_eq_true rfl) ⟨Nat.zero_le _, Nat.zero_le _⟩ dX1_consider_162 (fun H locs hP hD hS => ?_)
                  refine lv_ior hx hb dX1_consider_165 ?_
                  refine lv_istore (lv' := [(14, .int (t1_21 ||| q22)), (0, .ref (aE 0)), (1, .ref (aS 0)), (2, .int p1), (3, .int p2), (4, .int p3), (5, .long v5_21), (8, .long v8_21), (10, .long v10_21), (12, .long v12_21)]) hx hb dX1_consider_166 hl (by decide) rfl (fun ls hl => ?_)
                  refine lv_aload_n hx hb dX1_consider_168 rfl (lv_at hl 2 rfl) ?_
                  refine lv_iload hx hb dX1_consider_169 (lv_at hl 0 rfl) ?_
                  refine lv_aload_n hx hb dX1_consider_171 rfl (lv_at hl 1 rfl) ?_
                  refine va_get (D := G) (ci := 1) (v := .int ru) (C := RX1) (T := TX1) (N := 8) hx hb hts uX1 hown hK hP 0 rfl rfl 6 (by decide) (hts _ kw112) (fun _ h9 => h9) rfl dX1_consider_172 ?_
                  refine lv_ior hx hb dX1_consider_175 ?_
                  obtain ⟨q23, hq23, h⟩ := bd_s h
                  refine kVi (n := 1) (C := RX2) (ws' := wE cI cJ cA aE aR un tp sh_21 de_21 co_21 ma_21 ru fo_21 ++ (wS cI cJ aS pr pu ta se qu im su tc sc rc cn so ++ ([] : va_W))) (As := [.int ((t1_21 ||| q22) ||| ru)]) (rest := []) hx hb hml hown hts (c_X2_forbids l G cI cJ cZ cO cA e aS _ pr pu ta se qu im su tc sc rc cn so ((t1_21 ||| q22) ||| ru) hq23) (tb_V kw328 kw286 kw287 kw2 kw288) rfl rfl (by decide +kernel) ⟨Nat.le_of_ble_eq_true rfl, Nat.le_of_ble_eq_true rfl⟩ hK hP hD hS hA hE 13 rfl rfl [13, 14, 15, 16, 17, 18, 19, 20] [0, 1, 2, 3, 4, 5, 6, 7, 8, 9, 10, 11, 12] rfl rfl rfl 21 ⟨rfl, rfl⟩ (by decide +kernel) (by decide +kernel) rfl rfl hl.1 (Nat.le_of_ble_eq_true rfl) ⟨Nat.zero_le _, Nat.zero_le _⟩ dX1_consider_176 (fun H locs hP hD hS => ?_)
                  refine lv_if_eq (tgt := 183) hx hb dX1_consider_179 (by decide) (fun c24 => ?_) (fun c24 => ?_)
                  · replace h := (if_pos c24).symm.trans h
                    refine lv_lload hx hb dX1_consider_183 (lv_at hl 7 rfl) ?_
                    refine lv_aload_n hx hb dX1_consider_185 rfl (lv_at hl 1 rfl) ?_
                    refine va_get (D := G) (ci := 1) (v := .ref (aE 2)) (C := RX1) (T := TX1) (N := 8) hx hb hts uX1 hown hK hP 0 rfl rfl 1 (by decide) (hts _ kw106) (fun _ h9 => h9) rfl dX1_consider_186 ?_
                    refine lv_iload_n hx hb dX1_consider_189 rfl (lv_at hl 3 rfl) ?_
                    obtain ⟨g25, h⟩ := gd_s h
                    refine va_iald hx hb hK hP 2 0 rfl rfl (ib_in g25) dX1_consider_190 ?_
                    refine lv_i2l (v := (tp p1.toNatClampNeg).toInt64) hx hb dX1_consider_191 rfl ?_
                    refine lv_lmul hx hb dX1_consider_192 ?_
                    refine lv_lload hx hb dX1_consider_193 (lv_at hl 8 rfl) ?_
                    refine lv_aload_n hx hb dX1_consider_195 rfl (lv_at hl 1 rfl) ?_
                    refine va_get (D := G) (ci := 1) (v := .ref (aE 2)) (C := RX1) (T := TX1) (N := 8) hx hb hts uX1 hown hK hP 0 rfl rfl 1 (by decide) (hts _ kw106) (fun _ h9 => h9) rfl dX1_consider_196 ?_
                    refine lv_iload_n hx hb dX1_consider_199 rfl (lv_at hl 4 rfl) ?_
                    obtain ⟨g26, h⟩ := gd_s h
                    refine va_iald hx hb hK hP 2 0 rfl rfl (ib_in g26) dX1_consider_200 ?_
                    refine lv_i2l (v := (tp p2.toNatClampNeg).toInt64) hx hb dX1_consider_201 rfl ?_
                    refine lv_lmul hx hb dX1_consider_202 ?_
                    refine lv_ladd hx hb dX1_consider_203 ?_
                    refine lv_lload hx hb dX1_consider_204 (lv_at hl 9 rfl) ?_
                    refine lv_aload_n hx hb dX1_consider_206 rfl (lv_at hl 1 rfl) ?_
                    refine va_get (D := G) (ci := 1) (v := .ref (aE 2)) (C := RX1) (T := TX1) (N := 8) hx hb hts uX1 hown hK hP 0 rfl rfl 1 (by decide) (hts _ kw106) (fun _ h9 => h9) rfl dX1_consider_207 ?_
                    refine lv_iload hx hb dX1_consider_210 (lv_at hl 5 rfl) ?_
                    obtain ⟨g27, h⟩ := gd_s h
                    refine va_iald hx hb hK hP 2 0 rfl rfl (ib_in g27) dX1_consider_212 ?_
                    refine lv_i2l (v := (tp p3.toNatClampNeg).toInt64) hx hb dX1_consider_213 rfl ?_
                    refine lv_lmul hx hb dX1_consider_214 ?_
                    refine lv_ladd hx hb dX1_consider_215 ?_
                    refine lv_lstore (lv' := [(15, .long (((v8_21 * ((tp p1.toNatClampNeg).toInt64)) + (v10_21 * ((tp p2.toNatClampNeg).toInt64))) + (v12_21 * ((tp p3.toNatClampNeg).toInt64)))), (14, .int (t1_21 ||| q22)), (0, .ref (aE 0)), (1, .ref (aS 0)), (2, .int p1), (3, .int p2), (4, .int p3), (5, .long v5_21), (8, .long v8_21), (10, .long v10_21), (12, .long v12_21)]) hx hb dX1_consider_216 hl (by decide) rfl (fun ls hl => ?_)
                    refine lv_aload_n hx hb dX1_consider_218 rfl (lv_at hl 2 rfl) ?_
                    refine va_get (D := G) (ci := 1) (v := .int fo_21) (C := RX1) (T := TX1) (N := 8) hx hb hts uX1 hown hK hP 0 rfl rfl 7 (by decide) (hts _ kw113) (fun _ h9 => h9) rfl dX1_consider_219 ?_
                    have hJ29 : ∀ (sh_29 : Nat → Int64) (de_29 : Int64) (co_29 : Int64) (ma_29 : Int32) (fo_29 : Int32) (v5_29 : Int64) (v8_29 : Int64) (v10_29 : Int64) (v12_29 : Int64) (v14_29 : Int32) (v15_29 : Int64) (H : Heap) (locs : List Loc) (ls : Array Slot), f_X1_consider_j239 sh_29 de_29 co_29 ma_29 fo_29 p1 p2 p3 v5_29 v8_29 v10_29 v12_29 v14_29 v15_29 = some res → va_P G vwCl (wE cI cJ cA aE aR un tp sh_29 de_29 co_29 ma_29 ru fo_29 ++ (wS cI cJ aS pr pu ta se qu im su tc sc rc cn so ++ ([] : va_W))) H → va_D A (wE cI cJ cA aE aR un tp sh_29 de_29 co_29 ma_29 ru fo_29 ++ (wS cI cJ aS pr pu ta se qu im su tc sc rc cn so ++ ([] : va_W))) → va_S A s.heap H locs → lv_has ls 17 [(0, .ref (aE 0)), (2, .int p1), (3, .int p2), (4, .int p3), (5, .long v5_29), (8, .long v8_29), (10, .long v10_29), (12, .long v12_29), (14, .int v14_29), (15, .long v15_29)] → W p l ev ({ frames := 2, cells := 0, slots := 0, locals := 44 } : Room) s m ([.ref (aE 0), .ref (aS 0), .int p1, .int p2, .int p3] : List Value).toArray below meth c H locs 0 0 (MQ below (qV G (ty5 cI cJ cZ cO cA) A (wE cI cJ cA aE aR un tp res.1 res.2.1 res.2.2.1 res.2.2.2.1 ru res.2.2.2.2 ++ (wS cI cJ aS pr pu ta se qu im su tc sc rc cn so ++ ([] : va_W)))) ([.ref (aE 0), .ref (aS 0), .int p1, .int p2, .int p3] : List Value).toArray s 0 0 A) (F0 m 239 ls []) := by
                      intro sh_29 de_29 co_29 ma_29 fo_29 v5_29 v8_29 v10_29 v12_29 v14_29 v15_29 H locs ls h hP hD hS hl
                      unfold f_X1_consider_j239 at h
                      refine lv_aload_n hx hb dX1_consider_239 rfl (lv_at hl 0 rfl) ?_
                      obtain ⟨q30, hq30, h⟩ := bd_s h
                      refine kVv (n := 0) (C := RX1) (ws' := wE cI cJ cA aE aR un tp q30.1 q30.2.1 q30.2.2.1 q30.2.2.2.1 ru q30.2.2.2.2 ++ (wS cI cJ aS pr pu ta se qu im su tc sc rc cn so ++ ([] : va_W))) (As := []) (rest := []) hx hb hml hown hts (c_X1_clear l G cI cJ cZ cO cA e aE aR _ un tp sh_29 de_29 co_29 ma_29 ru fo_29 hq30) (tb_V kw304 kw306 kv1 kw5 kw307) rfl rfl (by decide +kernel) ⟨Nat.le_of_ble_eq_true rfl, Nat.le_of_ble_eq_true rfl⟩ hK hP hD hS hA hE 0 rfl rfl [0, 1, 2, 3, 4, 5, 6, 7, 8, 9, 10, 11, 12] [13, 14, 15, 16, 17, 18, 19, 20] rfl rfl rfl 21 ⟨rfl, rfl⟩ (by decide +kernel) (by decide +kernel) rfl rfl hl.1 (Nat.le_of_ble_eq_true rfl) ⟨Nat.zero_le _, Nat.zero_le _⟩ dX1_consider_240 (fun H locs hP hD hS => ?_)
                      refine lv_aload_n hx hb dX1_consider_243 rfl (lv_at hl 0 rfl) ?_
                      refine lv_iconst (v := 1) hx hb dX1_consider_244 (by decide) ?_
                      refine va_put (D := G) (ci := 1) (ty := .boolean) (v := .int 1) (C := RX1) (T := TX1) (N := 8) hx hb hts uX1 tyX1 tyX1_ok nmX1 hown hK hP hD hS 0 rfl rfl 7 (by decide) (hts _ kw113) (fun _ h9 => h9) rfl (by decide +kernel) rfl rfl (Nat.le_of_ble_eq_true rfl) dX1_consider_245 (fun H locs hP hD hS => ?_)
                      have hP : va_P G vwCl (wE cI cJ cA aE aR un tp q30.1 q30.2.1 q30.2.2.1 q30.2.2.2.1 ru 1 ++ (wS cI cJ aS pr pu ta se qu im su tc sc rc cn so ++ ([] : va_W))) H := hP
                      have hD : va_D A (wE cI cJ cA aE aR un tp q30.1 q30.2.1 q30.2.2.1 q30.2.2.2.1 ru 1 ++ (wS cI cJ aS pr pu ta se qu im su tc sc rc cn so ++ ([] : va_W))) := hD
                      refine lv_aload_n hx hb dX1_consider_248 rfl (lv_at hl 0 rfl) ?_
                      refine lv_iload hx hb dX1_consider_249 (lv_at hl 8 rfl) ?_
                      refine va_put (D := G) (ci := 1) (ty := .int) (v := .int v14_29) (C := RX1) (T := TX1) (N := 8) hx hb hts uX1 tyX1 tyX1_ok nmX1 hown hK hP hD hS 0 rfl rfl 5 (by decide) (hts _ kw110) (fun _ h9 => h9) rfl (by decide +kernel) rfl rfl (Nat.le_of_ble_eq_true rfl) dX1_consider_251 (fun H locs hP hD hS => ?_)
                      have hP : va_P G vwCl (wE cI cJ cA aE aR un tp q30.1 q30.2.1 q30.2.2.1 v14_29 ru 1 ++ (wS cI cJ aS pr pu ta se qu im su tc sc rc cn so ++ ([] : va_W))) H := hP
                      have hD : va_D A (wE cI cJ cA aE aR un tp q30.1 q30.2.1 q30.2.2.1 v14_29 ru 1 ++ (wS cI cJ aS pr pu ta se qu im su tc sc rc cn so ++ ([] : va_W))) := hD
                      refine lv_aload_n hx hb dX1_consider_254 rfl (lv_at hl 0 rfl) ?_
                      refine lv_lload hx hb dX1_consider_255 (lv_at hl 9 rfl) ?_
                      refine va_put (D := G) (ci := 1) (ty := .long) (v := .long v15_29) (C := RX1) (T := TX1) (N := 8) hx hb hts uX1 tyX1 tyX1_ok nmX1 hown hK hP hD hS 0 rfl rfl 4 (by decide) (hts _ kw109) (fun _ h9 => h9) rfl (by decide +kernel) rfl rfl (Nat.le_of_ble_eq_true rfl) dX1_consider_257 (fun H locs hP hD hS => ?_)
                      have hP : va_P G vwCl (wE cI cJ cA aE aR un tp q30.1 q30.2.1 v15_29 v14_29 ru 1 ++ (wS cI cJ aS pr pu ta se qu im su tc sc rc cn so ++ ([] : va_W))) H := hP
                      have hD : va_D A (wE cI cJ cA aE aR un tp q30.1 q30.2.1 v15_29 v14_29 ru 1 ++ (wS cI cJ aS pr pu ta se qu im su tc sc rc cn so ++ ([] : va_W))) := hD
                      refine lv_aload_n hx hb dX1_consider_260 rfl (lv_at hl 0 rfl) ?_
                      refine lv_lload hx hb dX1_consider_261 (lv_at hl 4 rfl) ?_
                      refine va_put (D := G) (ci := 1) (ty := .long) (v := .long v5_29) (C := RX1) (T := TX1) (N := 8) hx hb hts uX1 tyX1 tyX1_ok nmX1 hown hK hP hD hS 0 rfl rfl 3 (by decide) (hts _ kw108) (fun _ h9 => h9) rfl (by decide +kernel) rfl rfl (Nat.le_of_ble_eq_true rfl) dX1_consider_263 (fun H locs hP hD hS => ?_)
                      have hP : va_P G vwCl (wE cI cJ cA aE aR un tp q30.1 v5_29 v15_29 v14_29 ru 1 ++ (wS cI cJ aS pr pu ta se qu im su tc sc rc cn so ++ ([] : va_W))) H := hP
                      have hD : va_D A (wE cI cJ cA aE aR un tp q30.1 v5_29 v15_29 v14_29 ru 1 ++ (wS cI cJ aS pr pu ta se qu im su tc sc rc cn so ++ ([] : va_W))) := hD
                      refine lv_aload_n hx hb dX1_consider_266 rfl (lv_at hl 0 rfl) ?_
                      refine va_get (D := G) (ci := 1) (v := .ref (aE 3)) (C := RX1) (T := TX1) (N := 8) hx hb hts uX1 hown hK hP 0 rfl rfl 2 (by decide) (hts _ kw107) (fun _ h9 => h9) rfl dX1_consider_267 ?_
                      refine lv_iload_n hx hb dX1_consider_270 rfl (lv_at hl 1 rfl) ?_
                      refine lv_lload hx hb dX1_consider_271 (lv_at hl 5 rfl) ?_
                      obtain ⟨g31, h⟩ := gd_s h
                      refine va_last hx hb hK hP hD hS 3 1 rfl rfl (ib_in g31) dX1_consider_273 (fun H locs hP hD hS => ?_)
                      have hP : va_P G vwCl (wE cI cJ cA aE aR un tp (vp_updL q30.1 p1.toNatClampNeg v8_29) v5_29 v15_29 v14_29 ru 1 ++ (wS cI cJ aS pr pu ta se qu im su tc sc rc cn so ++ ([] : va_W))) H := hP
                      have hD : va_D A (wE cI cJ cA aE aR un tp (vp_updL q30.1 p1.toNatClampNeg v8_29) v5_29 v15_29 v14_29 ru 1 ++ (wS cI cJ aS pr pu ta se qu im su tc sc rc cn so ++ ([] : va_W))) := hD
                      refine lv_aload_n hx hb dX1_consider_274 rfl (lv_at hl 0 rfl) ?_
                      refine va_get (D := G) (ci := 1) (v := .ref (aE 3)) (C := RX1) (T := TX1) (N := 8) hx hb hts uX1 hown hK hP 0 rfl rfl 2 (by decide) (hts _ kw107) (fun _ h9 => h9) rfl dX1_consider_275 ?_
                      refine lv_iload_n hx hb dX1_consider_278 rfl (lv_at hl 2 rfl) ?_
                      refine lv_lload hx hb dX1_consider_279 (lv_at hl 6 rfl) ?_
                      obtain ⟨g32, h⟩ := gd_s h
                      refine va_last hx hb hK hP hD hS 3 1 rfl rfl (ib_in g32) dX1_consider_281 (fun H locs hP hD hS => ?_)
                      have hP : va_P G vwCl (wE cI cJ cA aE aR un tp (vp_updL (vp_updL q30.1 p1.toNatClampNeg v8_29) p2.toNatClampNeg v10_29) v5_29 v15_29 v14_29 ru 1 ++ (wS cI cJ aS pr pu ta se qu im su tc sc rc cn so ++ ([] : va_W))) H := hP
                      have hD : va_D A (wE cI cJ cA aE aR un tp (vp_updL (vp_updL q30.1 p1.toNatClampNeg v8_29) p2.toNatClampNeg v10_29) v5_29 v15_29 v14_29 ru 1 ++ (wS cI cJ aS pr pu ta se qu im su tc sc rc cn so ++ ([] : va_W))) := hD
                      refine lv_aload_n hx hb dX1_consider_282 rfl (lv_at hl 0 rfl) ?_
                      refine va_get (D := G) (ci := 1) (v := .ref (aE 3)) (C := RX1) (T := TX1) (N := 8) hx hb hts uX1 hown hK hP 0 rfl rfl 2 (by decide) (hts _ kw107) (fun _ h9 => h9) rfl dX1_consider_283 ?_
                      refine lv_iload hx hb dX1_consider_286 (lv_at hl 3 rfl) ?_
                      refine lv_lload hx hb dX1_consider_288 (lv_at hl 7 rfl) ?_
                      obtain ⟨g33, h⟩ := gd_s h
                      refine va_last hx hb hK hP hD hS 3 1 rfl rfl (ib_in g33) dX1_consider_290 (fun H locs hP hD hS => ?_)
                      have hP : va_P G vwCl (wE cI cJ cA aE aR un tp (vp_updL (vp_updL (vp_updL q30.1 p1.toNatClampNeg v8_29) p2.toNatClampNeg v10_29) p3.toNatClampNeg v12_29) v5_29 v15_29 v14_29 ru 1 ++ (wS cI cJ aS pr pu ta se qu im su tc sc rc cn so ++ ([] : va_W))) H := hP
                      have hD : va_D A (wE cI cJ cA aE aR un tp (vp_updL (vp_updL (vp_updL q30.1 p1.toNatClampNeg v8_29) p2.toNatClampNeg v10_29) p3.toNatClampNeg v12_29) v5_29 v15_29 v14_29 ru 1 ++ (wS cI cJ aS pr pu ta se qu im su tc sc rc cn so ++ ([] : va_W))) := hD
                      rw [← Option.some.inj h]
                      exact krv hx hb hr hlk hP hD hS hK dX1_consider_291
                    refine lv_if_eq (tgt := 239) hx hb dX1_consider_222 (by decide) (fun c28 => ?_) (fun c28 => ?_)
                    · replace h := (if_pos c28).symm.trans h
                      exact hJ29 sh_21 de_21 co_21 ma_21 fo_21 v5_21 v8_21 v10_21 v12_21 (t1_21 ||| q22) (((v8_21 * ((tp p1.toNatClampNeg).toInt64)) + (v10_21 * ((tp p2.toNatClampNeg).toInt64))) + (v12_21 * ((tp p3.toNatClampNeg).toInt64))) _ _ _ h hP hD hS (lv_sub hl [2, 4, 5, 6, 7, 8, 9, 10, 1, 0] rfl)
                    · replace h := (if_neg c28).symm.trans h
                      refine lv_aload_n hx hb dX1_consider_225 rfl (lv_at hl 2 rfl) ?_
                      refine lv_lload hx hb dX1_consider_226 (lv_at hl 0 rfl) ?_
                      refine lv_lload hx hb dX1_consider_228 (lv_at hl 7 rfl) ?_
                      refine lv_iload hx hb dX1_consider_230 (lv_at hl 1 rfl) ?_
                      obtain ⟨q34, hq34, h⟩ := bd_s h
                      refine kVi (n := 3) (C := RX1) (ws' := wE cI cJ cA aE aR un tp sh_21 de_21 co_21 ma_21 ru fo_21 ++ (wS cI cJ aS pr pu ta se qu im su tc sc rc cn so ++ ([] : va_W))) (As := [.long (((v8_21 * ((tp p1.toNatClampNeg).toInt64)) + (v10_21 * ((tp p2.toNatClampNeg).toInt64))) + (v12_21 * ((tp p3.toNatClampNeg).toInt64))), .long v5_21, .int (t1_21 ||| q22)]) (rest := []) hx hb hml hown hts (c_X1_isBetter l G cI cJ cZ cO cA e aE aR _ un tp sh_21 de_21 co_21 ma_21 ru fo_21 (((v8_21 * ((tp p1.toNatClampNeg).toInt64)) + (v10_21 * ((tp p2.toNatClampNeg).toInt64))) + (v12_21 * ((tp p3.toNatClampNeg).toInt64))) v5_21 (t1_21 ||| q22) hq34) (tb_V kw329 kw331 kv3 kw5 kw332) rfl rfl (by decide +kernel) ⟨Nat.le_of_ble_eq_true rfl, Nat.le_of_ble_eq_true rfl⟩ hK hP hD hS hA hE 0 rfl rfl [0, 1, 2, 3, 4, 5, 6, 7, 8, 9, 10, 11, 12] [13, 14, 15, 16, 17, 18, 19, 20] rfl rfl rfl 21 ⟨rfl, rfl⟩ (by decide +kernel) (by decide +kernel) rfl rfl hl.1 (Nat.le_of_ble_eq_true rfl) ⟨Nat.zero_le _, Nat.zero_le _⟩ dX1_consider_232 (fun H locs hP hD hS => ?_)
                      refine lv_if_ne (tgt := 239) hx hb dX1_consider_235 (by decide) (fun c35 => ?_) (fun c35 => ?_)
                      · replace h := (if_neg c35).symm.trans h
                        exact hJ29 sh_21 de_21 co_21 ma_21 fo_21 v5_21 v8_21 v10_21 v12_21 (t1_21 ||| q22) (((v8_21 * ((tp p1.toNatClampNeg).toInt64)) + (v10_21 * ((tp p2.toNatClampNeg).toInt64))) + (v12_21 * ((tp p3.toNatClampNeg).toInt64))) _ _ _ h hP hD hS (lv_sub hl [2, 4, 5, 6, 7, 8, 9, 10, 1, 0] rfl)
                      · replace h := (if_pos c35).symm.trans h
                        rw [← Option.some.inj h]
                        exact krv hx hb hr hlk hP hD hS hK dX1_consider_238
                  · replace h := (if_neg c24).symm.trans h
                    rw [← Option.some.inj h]
                    exact krv hx hb hr hlk hP hD hS hK dX1_consider_182
                refine lv_if_le (tgt := 159) hx hb dX1_consider_152 (by decide) (fun c20 => ?_) (fun c20 => ?_)
                · replace h := (if_pos c20).symm.trans h
                  refine lv_iconst (v := 0) hx hb dX1_consider_159 (by decide) ?_
                  exact hJ21 sh_18 de_18 co_18 ma_18 fo_18 v5_18 v8_18 v10_18 v12_18 0 (t1_18 ||| q19) _ _ _ h hP hD hS (lv_sub hl [0, 1, 2, 3, 4, 5, 6, 7, 8] rfl)
                · replace h := (if_neg c20).symm.trans h
                  refine lv_iconst (v := 1) hx hb dX1_consider_155 (by decide) ?_
                  refine lv_goto (tgt := 160) hx hb dX1_consider_156 (by decide) ?_
                  exact hJ21 sh_18 de_18 co_18 ma_18 fo_18 v5_18 v8_18 v10_18 v12_18 1 (t1_18 ||| q19) _ _ _ h hP hD hS (lv_sub hl [0, 1, 2, 3, 4, 5, 6, 7, 8] rfl)
              refine lv_if_le (tgt := 142) hx hb dX1_consider_135 (by decide) (fun c17 => ?_) (fun c17 => ?_)
              · replace h := (if_pos c17).symm.trans h
                refine lv_iconst (v := 0) hx hb dX1_consider_142 (by decide) ?_
                exact hJ18 sh_15 de_15 co_15 ma_15 fo_15 v5_15 v8_15 v10_15 v12_15 0 q16 _ _ _ h hP hD hS (lv_sub hl [0, 1, 2, 3, 4, 5, 6, 7, 8] rfl)
              · replace h := (if_neg c17).symm.trans h
                refine lv_iconst (v := 1) hx hb dX1_consider_138 (by decide) ?_
                refine lv_goto (tgt := 143) hx hb dX1_consider_139 (by decide) ?_
                exact hJ18 sh_15 de_15 co_15 ma_15 fo_15 v5_15 v8_15 v10_15 v12_15 1 q16 _ _ _ h hP hD hS (lv_sub hl [0, 1, 2, 3, 4, 5, 6, 7, 8] rfl)
            refine lv_if_le (tgt := 126) hx hb dX1_consider_119 (by decide) (fun c14 => ?_) (fun c14 => ?_)
            · replace h := (if_pos c14).symm.trans h
              refine lv_iconst (v := 0) hx hb dX1_consider_126 (by decide) ?_
              exact hJ15 sh_4 de_4 co_4 ma_4 fo_4 (v5_4 * t0_4.toInt64) (t0_4.toInt64 * q5) (t0_4.toInt64 * q6) (t0_4.toInt64 * q7) 0 _ _ _ h hP hD hS (lv_sub hl [5, 6, 7, 8, 9, 3, 2, 1, 0] rfl)
            · replace h := (if_neg c14).symm.trans h
              refine lv_iconst (v := 1) hx hb dX1_consider_122 (by decide) ?_
              refine lv_goto (tgt := 127) hx hb dX1_consider_123 (by decide) ?_
              exact hJ15 sh_4 de_4 co_4 ma_4 fo_4 (v5_4 * t0_4.toInt64) (t0_4.toInt64 * q5) (t0_4.toInt64 * q6) (t0_4.toInt64 * q7) 1 _ _ _ h hP hD hS (lv_sub hl [5, 6, 7, 8, 9, 3, 2, 1, 0] rfl)
          · replace h := (if_pos c13).symm.trans h
            rw [← Option.some.inj h]
            exact krv hx hb hr hlk hP hD hS hK dX1_consider_114
    refine lv_if_ge (tgt := 29) hx hb dX1_consider_22 (by decide) (fun c3 => ?_) (fun c3 => ?_)
    · replace h := (if_pos c3).symm.trans h
      refine lv_iconst (v := 1) hx hb dX1_consider_29 (by decide) ?_
      exact hJ4 sh de co ma fo q1 1 _ _ _ h hP hD hS (lv_sub hl [1, 2, 3, 4, 5, 0] rfl)
    · replace h := (if_neg c3).symm.trans h
      refine lv_iconst (v := (-1)) hx hb dX1_consider_25 (by decide) ?_
      refine lv_goto (tgt := 30) hx hb dX1_consider_26 (by decide) ?_
      exact hJ4 sh de co ma fo q1 (-1) _ _ _ h hP hD hS (lv_sub hl [1, 2, 3, 4, 5, 0] rfl)
  · replace h := (if_pos c2).symm.trans h
    rw [← Option.some.inj h]
    exact krv hx hb hr hlk hP hD hS hK dX1_consider_17

/-! X1_find -/
def f_X1_find_b92 (pr : Nat → Int32) (ta : Nat → Int32) (se : Nat → Int32) (tc : Int32) (sc : Int32) (un : Nat → Nat → Int32) (tp : Nat → Int32) (ru : Int32) (v5 : Int32) (v6 : Int32) (z15 : (Nat → Int64) × Int64 × Int64 × Int32 × Int32 × Int32) : Option (((Nat → Int64) × Int64 × Int64 × Int32 × Int32 × Int32) ⊕ ((Nat → Int64) × Int64 × Int64 × Int32 × Int32)) :=
  if tc ≤ z15.2.2.2.2.2 then (some (Sum.inr (z15.1, z15.2.1, z15.2.2.1, z15.2.2.2.1, z15.2.2.2.2.1))) else ((f_X2_isUsable pr ta v5).bind (fun q17 => if q17 = 0 then (some (Sum.inl (z15.1, z15.2.1, z15.2.2.1, z15.2.2.2.1, z15.2.2.2.2.1, (z15.2.2.2.2.2 + 1)))) else ((f_X2_isUsable pr ta v6).bind (fun q19 => if q19 = 0 then (some (Sum.inl (z15.1, z15.2.1, z15.2.2.1, z15.2.2.2.1, z15.2.2.2.2.1, (z15.2.2.2.2.2 + 1)))) else ((f_X2_isUsable pr ta z15.2.2.2.2.2).bind (fun q21 => if q21 = 0 then (some (Sum.inl (z15.1, z15.2.1, z15.2.2.1, z15.2.2.2.1, z15.2.2.2.2.1, (z15.2.2.2.2.2 + 1)))) else ((f_X1_consider un tp ru se sc z15.1 z15.2.1 z15.2.2.1 z15.2.2.2.1 z15.2.2.2.2.1 v5 v6 z15.2.2.2.2.2).bind (fun q23 => some (Sum.inl (q23.1, q23.2.1, q23.2.2.1, q23.2.2.2.1, q23.2.2.2.2, (z15.2.2.2.2.2 + 1)))))))))))
def f_X1_find_b77 (pr : Nat → Int32) (ta : Nat → Int32) (se : Nat → Int32) (tc : Int32) (sc : Int32) (un : Nat → Nat → Int32) (tp : Nat → Int32) (ru : Int32) (v5 : Int32) (z13 : (Nat → Int64) × Int64 × Int64 × Int32 × Int32 × Int32) : Option (((Nat → Int64) × Int64 × Int64 × Int32 × Int32 × Int32) ⊕ ((Nat → Int64) × Int64 × Int64 × Int32 × Int32)) :=
  if tc ≤ z13.2.2.2.2.2 then (some (Sum.inr (z13.1, z13.2.1, z13.2.2.1, z13.2.2.2.1, z13.2.2.2.2.1))) else ((lp (f_X1_find_b92 pr ta se tc sc un tp ru v5 z13.2.2.2.2.2) 1000 (z13.1, z13.2.1, z13.2.2.1, z13.2.2.2.1, z13.2.2.2.2.1, (z13.2.2.2.2.2 + 1))).bind (fun q15 => some (Sum.inl (q15.1, q15.2.1, q15.2.2.1, q15.2.2.2.1, q15.2.2.2.2, (z13.2.2.2.2.2 + 1)))))
def f_X1_find_b62 (pr : Nat → Int32) (ta : Nat → Int32) (se : Nat → Int32) (tc : Int32) (sc : Int32) (un : Nat → Nat → Int32) (tp : Nat → Int32) (ru : Int32) (z11 : (Nat → Int64) × Int64 × Int64 × Int32 × Int32 × Int32) : Option (((Nat → Int64) × Int64 × Int64 × Int32 × Int32 × Int32) ⊕ ((Nat → Int64) × Int64 × Int64 × Int32 × Int32)) :=
  if tc ≤ z11.2.2.2.2.2 then (some (Sum.inr (z11.1, z11.2.1, z11.2.2.1, z11.2.2.2.1, z11.2.2.2.2.1))) else ((lp (f_X1_find_b77 pr ta se tc sc un tp ru z11.2.2.2.2.2) 1000 (z11.1, z11.2.1, z11.2.2.1, z11.2.2.2.1, z11.2.2.2.2.1, (z11.2.2.2.2.2 + 1))).bind (fun q13 => some (Sum.inl (q13.1, q13.2.1, q13.2.2.1, q13.2.2.2.1, q13.2.2.2.2, (z11.2.2.2.2.2 + 1)))))
def f_X1_find_j23 (un : Nat → Nat → Int32) (tp : Nat → Int32) (sh : Nat → Int64) (de : Int64) (co : Int64) (ma : Int32) (ru : Int32) (fo : Int32) (pr : Nat → Int32) (ta : Nat → Int32) (se : Nat → Int32) (tc : Int32) (sc : Int32) (v2 : Int32) (v3 : Int32) (v4 : Int32) : Option ((Nat → Nat → Int32) × (Nat → Int32) × (Nat → Int64) × Int64 × Int64 × Int32 × Int32 × Int32) :=
  (f_X1_readThrusters pr ta tc un tp ru).bind (fun q4 => gd (ib 8 9) (gd (ib 0 3) (gd (ib 8 9) (gd (ib 1 3) (gd (ib 8 9) (gd (ib 2 3) ((lp (f_X1_find_b62 pr ta se tc sc (updR (updR (updR q4.1 (8 : Int32).toNatClampNeg (upd (q4.1 (8 : Int32).toNatClampNeg) (0 : Int32).toNatClampNeg v2)) (8 : Int32).toNatClampNeg (upd ((updR q4.1 (8 : Int32).toNatClampNeg (upd (q4.1 (8 : Int32).toNatClampNeg) (0 : Int32).toNatClampNeg v2)) (8 : Int32).toNatClampNeg) (1 : Int32).toNatClampNeg v3)) (8 : Int32).toNatClampNeg (upd ((updR (updR q4.1 (8 : Int32).toNatClampNeg (upd (q4.1 (8 : Int32).toNatClampNeg) (0 : Int32).toNatClampNeg v2)) (8 : Int32).toNatClampNeg (upd ((updR q4.1 (8 : Int32).toNatClampNeg (upd (q4.1 (8 : Int32).toNatClampNeg) (0 : Int32).toNatClampNeg v2)) (8 : Int32).toNatClampNeg) (1 : Int32).toNatClampNeg v3)) (8 : Int32).toNatClampNeg) (2 : Int32).toNatClampNeg v4)) q4.2.1 q4.2.2) 1000 (sh, de, co, ma, fo, 0)).bind (fun q11 => some ((updR (updR (updR q4.1 (8 : Int32).toNatClampNeg (upd (q4.1 (8 : Int32).toNatClampNeg) (0 : Int32).toNatClampNeg v2)) (8 : Int32).toNatClampNeg (upd ((updR q4.1 (8 : Int32).toNatClampNeg (upd (q4.1 (8 : Int32).toNatClampNeg) (0 : Int32).toNatClampNeg v2)) (8 : Int32).toNatClampNeg) (1 : Int32).toNatClampNeg v3)) (8 : Int32).toNatClampNeg (upd ((updR (updR q4.1 (8 : Int32).toNatClampNeg (upd (q4.1 (8 : Int32).toNatClampNeg) (0 : Int32).toNatClampNeg v2)) (8 : Int32).toNatClampNeg (upd ((updR q4.1 (8 : Int32).toNatClampNeg (upd (q4.1 (8 : Int32).toNatClampNeg) (0 : Int32).toNatClampNeg v2)) (8 : Int32).toNatClampNeg) (1 : Int32).toNatClampNeg v3)) (8 : Int32).toNatClampNeg) (2 : Int32).toNatClampNeg v4)), q4.2.1, q11.1, q11.2.1, q11.2.2.1, q11.2.2.2.1, q4.2.2, q11.2.2.2.2)))))))))
def f_X1_find (pr : Nat → Int32) (ta : Nat → Int32) (se : Nat → Int32) (tc : Int32) (sc : Int32) (un : Nat → Nat → Int32) (tp : Nat → Int32) (sh : Nat → Int64) (de : Int64) (co : Int64) (ma : Int32) (ru : Int32) (fo : Int32) (p1 : Int32) (p2 : Int32) (p3 : Int32) : Option ((Nat → Nat → Int32) × (Nat → Int32) × (Nat → Int64) × Int64 × Int64 × Int32 × Int32 × Int32) :=
  (f_X1_clear sh de co ma fo).bind (fun q1 => if p1 = 0 then (if p2 = 0 then (if p3 = 0 then (some (un, tp, q1.1, q1.2.1, q1.2.2.1, q1.2.2.2.1, ru, 1)) else (f_X1_find_j23 un tp q1.1 q1.2.1 q1.2.2.1 q1.2.2.2.1 ru q1.2.2.2.2 pr ta se tc sc p1 p2 p3)) else (f_X1_find_j23 un tp q1.1 q1.2.1 q1.2.2.1 q1.2.2.2.1 ru q1.2.2.2.2 pr ta se tc sc p1 p2 p3)) else (f_X1_find_j23 un tp q1.1 q1.2.1 q1.2.2.1 q1.2.2.2.1 ru q1.2.2.2.2 pr ta se tc sc p1 p2 p3))

set_option maxHeartbeats 4000000 in
set_option maxRecDepth 100000 in
theorem c_X1_find (l : Launch) (G : va_G) (cI cJ cZ cO cA : ClassId) (e : Nat × Nat) (aE : Nat → Nat) (aR : Nat → Nat) (aS : Nat → Nat) (sz : Nat) (un : Nat → Nat → Int32) (tp : Nat → Int32) (sh : Nat → Int64) (de : Int64) (co : Int64) (ma : Int32) (ru : Int32) (fo : Int32) (pr : Nat → Int32) (pu : Nat → Int32) (ta : Nat → Int32) (se : Nat → Int32) (qu : Nat → Int32) (im : Nat → Int32) (su : Nat → Int64) (tc : Int32) (sc : Int32) (rc : Int32) (cn : Int32) (so : Int32) (p1 : Int32) (p2 : Int32) (p3 : Int32) {res : (Nat → Nat → Int32) × (Nat → Int32) × (Nat → Int64) × Int64 × Int64 × Int32 × Int32 × Int32} (hf : f_X1_find pr ta se tc sc un tp sh de co ma ru fo p1 p2 p3 = some res) : MetV l yX1_find cX1_find 8 ({ frames := 5, cells := 0, slots := 0, locals := 109 } : Room) [.ref (aE 0), .ref (aS 0), .int p1, .int p2, .int p3] G (ty5 cI cJ cZ cO cA) e (wE cI cJ cA aE aR un tp sh de co ma ru fo ++ (wS cI cJ aS pr pu ta se qu im su tc sc rc cn so ++ ([] : va_W))) (wE cI cJ cA aE aR res.1 res.2.1 res.2.2.1 res.2.2.2.1 res.2.2.2.2.1 res.2.2.2.2.2.1 res.2.2.2.2.2.2.1 res.2.2.2.2.2.2.2 ++ (wS cI cJ aS pr pu ta se qu im su tc sc rc cn so ++ ([] : va_W))) sz := by
  refine g_body (QQ := fun A => (qV G (ty5 cI cJ cZ cO cA) A (wE cI cJ cA aE aR res.1 res.2.1 res.2.2.1 res.2.2.2.1 res.2.2.2.2.1 res.2.2.2.2.2.1 res.2.2.2.2.2.2.1 res.2.2.2.2.2.2.2 ++ (wS cI cJ aS pr pu ta se qu im su tc sc rc cn so ++ ([] : va_W))))) (own := RX1) (by decide) rfl (Nat.le_of_ble_eq_true rfl) ?_
  intro p ev s m below meth c A ls hx hb hr hml hown hts hlk hA hP hD hS hK hE hl
  have hl : lv_has ls 8 [(0, .ref (aE 0)), (1, .ref (aS 0)), (2, .int p1), (3, .int p2), (4, .int p3)] := hl
  show W p l ev ({ frames := 5, cells := 0, slots := 0, locals := 109 } : Room) s m ([.ref (aE 0), .ref (aS 0), .int p1, .int p2, .int p3] : List Value).toArray below meth c s.heap [] 0 0 (MQ below (qV G (ty5 cI cJ cZ cO cA) A (wE cI cJ cA aE aR res.1 res.2.1 res.2.2.1 res.2.2.2.1 res.2.2.2.2.1 res.2.2.2.2.2.1 res.2.2.2.2.2.2.1 res.2.2.2.2.2.2.2 ++ (wS cI cJ aS pr pu ta se qu im su tc sc rc cn so ++ ([] : va_W)))) ([.ref (aE 0), .ref (aS 0), .int p1, .int p2, .int p3] : List Value).toArray s 0 0 A) (F0 m 0 ls [])
  have h := hf
  unfold f_X1_find at h
  refine lv_aload_n hx hb dX1_find_0 rfl (lv_at hl 0 rfl) ?_
  obtain ⟨q1, hq1, h⟩ := bd_s h
  refine kVv (n := 0) (C := RX1) (ws' := wE cI cJ cA aE aR un tp q1.1 q1.2.1 q1.2.2.1 q1.2.2.2.1 ru q1.2.2.2.2 ++ (wS cI cJ aS pr pu ta se qu im su tc sc rc cn so ++ ([] : va_W))) (As := []) (rest := []) hx hb hml hown hts (c_X1_clear l G cI cJ cZ cO cA e aE aR _ un tp sh de co ma ru fo hq1) (tb_V kw304 kw306 kv1 kw5 kw307) rfl rfl (by decide +kernel) ⟨Nat.le_of_ble_eq_true rfl, Nat.le_of_ble_eq_true rfl⟩ hK hP hD hS hA hE 0 rfl rfl [0, 1, 2, 3, 4, 5, 6, 7, 8, 9, 10, 11, 12] [13, 14, 15, 16, 17, 18, 19, 20] rfl rfl rfl 21 ⟨rfl, rfl⟩ (by decide +kernel) (by decide +kernel) rfl rfl hl.1 (Nat.le_of_ble_eq_true rfl) ⟨Nat.zero_le _, Nat.zero_le _⟩ dX1_find_1 (fun H locs hP hD hS => ?_)
  refine lv_iload_n hx hb dX1_find_4 rfl (lv_at hl 2 rfl) ?_
  have hJ3 : ∀ (un_3 : Nat → Nat → Int32) (tp_3 : Nat → Int32) (sh_3 : Nat → Int64) (de_3 : Int64) (co_3 : Int64) (ma_3 : Int32) (ru_3 : Int32) (fo_3 : Int32) (H : Heap) (locs : List Loc) (ls : Array Slot), f_X1_find_j23 un_3 tp_3 sh_3 de_3 co_3 ma_3 ru_3 fo_3 pr ta se tc sc p1 p2 p3 = some res → va_P G vwCl (wE cI cJ cA aE aR un_3 tp_3 sh_3 de_3 co_3 ma_3 ru_3 fo_3 ++ (wS cI cJ aS pr pu ta se qu im su tc sc rc cn so ++ ([] : va_W))) H → va_D A (wE cI cJ cA aE aR un_3 tp_3 sh_3 de_3 co_3 ma_3 ru_3 fo_3 ++ (wS cI cJ aS pr pu ta se qu im su tc sc rc cn so ++ ([] : va_W))) → va_S A s.heap H locs → lv_has ls 8 [(0, .ref (aE 0)), (1, .ref (aS 0)), (2, .int p1), (3, .int p2), (4, .int p3)] → W p l ev ({ frames := 5, cells := 0, slots := 0, locals := 109 } : Room) s m ([.ref (aE 0), .ref (aS 0), .int p1, .int p2, .int p3] : List Value).toArray below meth c H locs 0 0 (MQ below (qV G (ty5 cI cJ cZ cO cA) A (wE cI cJ cA aE aR res.1 res.2.1 res.2.2.1 res.2.2.2.1 res.2.2.2.2.1 res.2.2.2.2.2.1 res.2.2.2.2.2.2.1 res.2.2.2.2.2.2.2 ++ (wS cI cJ aS pr pu ta se qu im su tc sc rc cn so ++ ([] : va_W)))) ([.ref (aE 0), .ref (aS 0), .int p1, .int p2, .int p3] : List Value).toArray s 0 0 A) (F0 m 23 ls []) := by
    intro un_3 tp_3 sh_3 de_3 co_3 ma_3 ru_3 fo_3 H locs ls h hP hD hS hl
    unfold f_X1_find_j23 at h
    refine lv_aload_n hx hb dX1_find_23 rfl (lv_at hl 0 rfl) ?_
    refine lv_aload_n hx hb dX1_find_24 rfl (lv_at hl 1 rfl) ?_
    obtain ⟨q4, hq4, h⟩ := bd_s h
    refine kVv (n := 1) (C := RX1) (ws' := wE cI cJ cA aE aR q4.1 q4.2.1 sh_3 de_3 co_3 ma_3 q4.2.2 fo_3 ++ (wS cI cJ aS pr pu ta se qu im su tc sc rc cn so ++ ([] : va_W))) (As := [.ref (aS 0)]) (rest := []) hx hb hml hown hts (c_X1_readThrusters l G cI cJ cZ cO cA e aE aR aS _ un_3 tp_3 sh_3 de_3 co_3 ma_3 ru_3 fo_3 pr pu ta se qu im su tc sc rc cn so hq4) (tb_V kw311 kw226 kw227 kw5 kw228) rfl rfl (by decide +kernel) ⟨Nat.le_of_ble_eq_true rfl, Nat.le_of_ble_eq_true rfl⟩ hK hP hD hS hA hE 0 rfl rfl [0, 1, 2, 3, 4, 5, 6, 7, 8, 9, 10, 11, 12, 13, 14, 15, 16, 17, 18, 19, 20] [] rfl rfl rfl 21 ⟨rfl, rfl⟩ (by decide +kernel) (by decide +kernel) rfl rfl hl.1 (Nat.le_of_ble_eq_true rfl) ⟨Nat.zero_le _, Nat.zero_le _⟩ dX1_find_25 (fun H locs hP hD hS => ?_)
    refine lv_aload_n hx hb dX1_find_28 rfl (lv_at hl 0 rfl) ?_
    refine va_get (D := G) (ci := 1) (v := .ref (aE 1)) (C := RX1) (T := TX1) (N := 8) hx hb hts uX1 hown hK hP 0 rfl rfl 0 (by decide) (hts _ kw105) (fun _ h9 => h9) rfl dX1_find_29 ?_
    refine lv_bipush (v := 8) hx hb dX1_find_32 (by decide) ?_
    obtain ⟨g5, h⟩ := gd_s h
    have k5 := ib_lt g5
    refine kald hx hb hK hP 1 4 rfl rfl rfl (ib_in g5) (rwF_at k5) dX1_find_34 ?_
    refine lv_iconst (v := 0) hx hb dX1_find_35 (by decide) ?_
    refine lv_iload_n hx hb dX1_find_36 rfl (lv_at hl 2 rfl) ?_
    obtain ⟨g6, h⟩ := gd_s h
    refine va_iast hx hb hK hP hD hS (4 + (8 : Int32).toNatClampNeg) 0 (wE_row k5) rfl (ib_in g6) dX1_find_37 (fun H locs hP hD hS => ?_)
    rw [wE_set k5] at hP hD
    have hP : va_P G vwCl (wE cI cJ cA aE aR (updR q4.1 (8 : Int32).toNatClampNeg (upd (q4.1 (8 : Int32).toNatClampNeg) (0 : Int32).toNatClampNeg p1)) q4.2.1 sh_3 de_3 co_3 ma_3 q4.2.2 fo_3 ++ (wS cI cJ aS pr pu ta se qu im su tc sc rc cn so ++ ([] : va_W))) H := hP
    have hD : va_D A (wE cI cJ cA aE aR (updR q4.1 (8 : Int32).toNatClampNeg (upd (q4.1 (8 : Int32).toNatClampNeg) (0 : Int32).toNatClampNeg p1)) q4.2.1 sh_3 de_3 co_3 ma_3 q4.2.2 fo_3 ++ (wS cI cJ aS pr pu ta se qu im su tc sc rc cn so ++ ([] : va_W))) := hD
    refine lv_aload_n hx hb dX1_find_38 rfl (lv_at hl 0 rfl) ?_
    refine va_get (D := G) (ci := 1) (v := .ref (aE 1)) (C := RX1) (T := TX1) (N := 8) hx hb hts uX1 hown hK hP 0 rfl rfl 0 (by decide) (hts _ kw105) (fun _ h9 => h9) rfl dX1_find_39 ?_
    refine lv_bipush (v := 8) hx hb dX1_find_42 (by decide) ?_
    obtain ⟨g7, h⟩ := gd_s h
    have k7 := ib_lt g7
    refine kald hx hb hK hP 1 4 rfl rfl rfl (ib_in g7) (rwF_at k7) dX1_find_44 ?_
    refine lv_iconst (v := 1) hx hb dX1_find_45 (by decide) ?_
    refine lv_iload_n hx hb dX1_find_46 rfl (lv_at hl 3 rfl) ?_
    obtain ⟨g8, h⟩ := gd_s h
    refine va_iast hx hb hK hP hD hS (4 + (8 : Int32).toNatClampNeg) 0 (wE_row k7) rfl (ib_in g8) dX1_find_47 (fun H locs hP hD hS => ?_)
    rw [wE_set k7] at hP hD
    have hP : va_P G vwCl (wE cI cJ cA aE aR (updR (updR q4.1 (8 : Int32).toNatClampNeg (upd (q4.1 (8 : Int32).toNatClampNeg) (0 : Int32).toNatClampNeg p1)) (8 : Int32).toNatClampNeg (upd ((updR q4.1 (8 : Int32).toNatClampNeg (upd (q4.1 (8 : Int32).toNatClampNeg) (0 : Int32).toNatClampNeg p1)) (8 : Int32).toNatClampNeg) (1 : Int32).toNatClampNeg p2)) q4.2.1 sh_3 de_3 co_3 ma_3 q4.2.2 fo_3 ++ (wS cI cJ aS pr pu ta se qu im su tc sc rc cn so ++ ([] : va_W))) H := hP
    have hD : va_D A (wE cI cJ cA aE aR (updR (updR q4.1 (8 : Int32).toNatClampNeg (upd (q4.1 (8 : Int32).toNatClampNeg) (0 : Int32).toNatClampNeg p1)) (8 : Int32).toNatClampNeg (upd ((updR q4.1 (8 : Int32).toNatClampNeg (upd (q4.1 (8 : Int32).toNatClampNeg) (0 : Int32).toNatClampNeg p1)) (8 : Int32).toNatClampNeg) (1 : Int32).toNatClampNeg p2)) q4.2.1 sh_3 de_3 co_3 ma_3 q4.2.2 fo_3 ++ (wS cI cJ aS pr pu ta se qu im su tc sc rc cn so ++ ([] : va_W))) := hD
    refine lv_aload_n hx hb dX1_find_48 rfl (lv_at hl 0 rfl) ?_
    refine va_get (D := G) (ci := 1) (v := .ref (aE 1)) (C := RX1) (T := TX1) (N := 8) hx hb hts uX1 hown hK hP 0 rfl rfl 0 (by decide) (hts _ kw105) (fun _ h9 => h9) rfl dX1_find_49 ?_
    refine lv_bipush (v := 8) hx hb dX1_find_52 (by decide) ?_
    obtain ⟨g9, h⟩ := gd_s h
    have k9 := ib_lt g9
    refine kald hx hb hK hP 1 4 rfl rfl rfl (ib_in g9) (rwF_at k9) dX1_find_54 ?_
    refine lv_iconst (v := 2) hx hb dX1_find_55 (by decide) ?_
    refine lv_iload hx hb dX1_find_56 (lv_at hl 4 rfl) ?_
    obtain ⟨g10, h⟩ := gd_s h
    refine va_iast hx hb hK hP hD hS (4 + (8 : Int32).toNatClampNeg) 0 (wE_row k9) rfl (ib_in g10) dX1_find_58 (fun H locs hP hD hS => ?_)
    rw [wE_set k9] at hP hD
    have hP : va_P G vwCl (wE cI cJ cA aE aR (updR (updR (updR q4.1 (8 : Int32).toNatClampNeg (upd (q4.1 (8 : Int32).toNatClampNeg) (0 : Int32).toNatClampNeg p1)) (8 : Int32).toNatClampNeg (upd ((updR q4.1 (8 : Int32).toNatClampNeg (upd (q4.1 (8 : Int32).toNatClampNeg) (0 : Int32).toNatClampNeg p1)) (8 : Int32).toNatClampNeg) (1 : Int32).toNatClampNeg p2)) (8 : Int32).toNatClampNeg (upd ((updR (updR q4.1 (8 : Int32).toNatClampNeg (upd (q4.1 (8 : Int32).toNatClampNeg) (0 : Int32).toNatClampNeg p1)) (8 : Int32).toNatClampNeg (upd ((updR q4.1 (8 : Int32).toNatClampNeg (upd (q4.1 (8 : Int32).toNatClampNeg) (0 : Int32).toNatClampNeg p1)) (8 : Int32).toNatClampNeg) (1 : Int32).toNatClampNeg p2)) (8 : Int32).toNatClampNeg) (2 : Int32).toNatClampNeg p3)) q4.2.1 sh_3 de_3 co_3 ma_3 q4.2.2 fo_3 ++ (wS cI cJ aS pr pu ta se qu im su tc sc rc cn so ++ ([] : va_W))) H := hP
    have hD : va_D A (wE cI cJ cA aE aR (updR (updR (updR q4.1 (8 : Int32).toNatClampNeg (upd (q4.1 (8 : Int32).toNatClampNeg) (0 : Int32).toNatClampNeg p1)) (8 : Int32).toNatClampNeg (upd ((updR q4.1 (8 : Int32).toNatClampNeg (upd (q4.1 (8 : Int32).toNatClampNeg) (0 : Int32).toNatClampNeg p1)) (8 : Int32).toNatClampNeg) (1 : Int32).toNatClampNeg p2)) (8 : Int32).toNatClampNeg (upd ((updR (updR q4.1 (8 : Int32).toNatClampNeg (upd (q4.1 (8 : Int32).toNatClampNeg) (0 : Int32).toNatClampNeg p1)) (8 : Int32).toNatClampNeg (upd ((updR q4.1 (8 : Int32).toNatClampNeg (upd (q4.1 (8 : Int32).toNatClampNeg) (0 : Int32).toNatClampNeg p1)) (8 : Int32).toNatClampNeg) (1 : Int32).toNatClampNeg p2)) (8 : Int32).toNatClampNeg) (2 : Int32).toNatClampNeg p3)) q4.2.1 sh_3 de_3 co_3 ma_3 q4.2.2 fo_3 ++ (wS cI cJ aS pr pu ta se qu im su tc sc rc cn so ++ ([] : va_W))) := hD
    refine lv_iconst (v := 0) hx hb dX1_find_59 (by decide) ?_
    refine lv_istore (lv' := [(5, .int 0), (0, .ref (aE 0)), (1, .ref (aS 0)), (2, .int p1), (3, .int p2), (4, .int p3)]) hx hb dX1_find_60 hl (by decide) rfl (fun ls hl => ?_)
    obtain ⟨q11, hq11, h⟩ := bd_s h
    have hX11_0 : ∀ (x11 : (Nat → Int64) × Int64 × Int64 × Int32 × Int32) (H : Heap) (locs : List Loc) (ls : Array Slot), x11 = q11 → va_P G vwCl (wE cI cJ cA aE aR (updR (updR (updR q4.1 (8 : Int32).toNatClampNeg (upd (q4.1 (8 : Int32).toNatClampNeg) (0 : Int32).toNatClampNeg p1)) (8 : Int32).toNatClampNeg (upd ((updR q4.1 (8 : Int32).toNatClampNeg (upd (q4.1 (8 : Int32).toNatClampNeg) (0 : Int32).toNatClampNeg p1)) (8 : Int32).toNatClampNeg) (1 : Int32).toNatClampNeg p2)) (8 : Int32).toNatClampNeg (upd ((updR (updR q4.1 (8 : Int32).toNatClampNeg (upd (q4.1 (8 : Int32).toNatClampNeg) (0 : Int32).toNatClampNeg p1)) (8 : Int32).toNatClampNeg (upd ((updR q4.1 (8 : Int32).toNatClampNeg (upd (q4.1 (8 : Int32).toNatClampNeg) (0 : Int32).toNatClampNeg p1)) (8 : Int32).toNatClampNeg) (1 : Int32).toNatClampNeg p2)) (8 : Int32).toNatClampNeg) (2 : Int32).toNatClampNeg p3)) q4.2.1 x11.1 x11.2.1 x11.2.2.1 x11.2.2.2.1 q4.2.2 x11.2.2.2.2 ++ (wS cI cJ aS pr pu ta se qu im su tc sc rc cn so ++ ([] : va_W))) H → va_D A (wE cI cJ cA aE aR (updR (updR (updR q4.1 (8 : Int32).toNatClampNeg (upd (q4.1 (8 : Int32).toNatClampNeg) (0 : Int32).toNatClampNeg p1)) (8 : Int32).toNatClampNeg (upd ((updR q4.1 (8 : Int32).toNatClampNeg (upd (q4.1 (8 : Int32).toNatClampNeg) (0 : Int32).toNatClampNeg p1)) (8 : Int32).toNatClampNeg) (1 : Int32).toNatClampNeg p2)) (8 : Int32).toNatClampNeg (upd ((updR (updR q4.1 (8 : Int32).toNatClampNeg (upd (q4.1 (8 : Int32).toNatClampNeg) (0 : Int32).toNatClampNeg p1)) (8 : Int32).toNatClampNeg (upd ((updR q4.1 (8 : Int32).toNatClampNeg (upd (q4.1 (8 : Int32).toNatClampNeg) (0 : Int32).toNatClampNeg p1)) (8 : Int32).toNatClampNeg) (1 : Int32).toNatClampNeg p2)) (8 : Int32).toNatClampNeg) (2 : Int32).toNatClampNeg p3)) q4.2.1 x11.1 x11.2.1 x11.2.2.1 x11.2.2.2.1 q4.2.2 x11.2.2.2.2 ++ (wS cI cJ aS pr pu ta se qu im su tc sc rc cn so ++ ([] : va_W))) → va_S A s.heap H locs → lv_has ls 8 [] → W p l ev ({ frames := 5, cells := 0, slots := 0, locals := 109 } : Room) s m ([.ref (aE 0), .ref (aS 0), .int p1, .int p2, .int p3] : List Value).toArray below meth c H locs 0 0 (MQ below (qV G (ty5 cI cJ cZ cO cA) A (wE cI cJ cA aE aR res.1 res.2.1 res.2.2.1 res.2.2.2.1 res.2.2.2.2.1 res.2.2.2.2.2.1 res.2.2.2.2.2.2.1 res.2.2.2.2.2.2.2 ++ (wS cI cJ aS pr pu ta se qu im su tc sc rc cn so ++ ([] : va_W)))) ([.ref (aE 0), .ref (aS 0), .int p1, .int p2, .int p3] : List Value).toArray s 0 0 A) (F0 m 157 ls []) := by
      intro x11 H locs ls e11 hP hD hS hl
      replace e11 := e11.symm
      subst e11
      rw [← Option.some.inj h]
      exact krv hx hb hr hlk hP hD hS hK dX1_find_157
    have hL11 : ∀ (n : Nat) (z11 : (Nat → Int64) × Int64 × Int64 × Int32 × Int32 × Int32) (H : Heap) (locs : List Loc) (ls : Array Slot), lp (f_X1_find_b62 pr ta se tc sc (updR (updR (updR q4.1 (8 : Int32).toNatClampNeg (upd (q4.1 (8 : Int32).toNatClampNeg) (0 : Int32).toNatClampNeg p1)) (8 : Int32).toNatClampNeg (upd ((updR q4.1 (8 : Int32).toNatClampNeg (upd (q4.1 (8 : Int32).toNatClampNeg) (0 : Int32).toNatClampNeg p1)) (8 : Int32).toNatClampNeg) (1 : Int32).toNatClampNeg p2)) (8 : Int32).toNatClampNeg (upd ((updR (updR q4.1 (8 : Int32).toNatClampNeg (upd (q4.1 (8 : Int32).toNatClampNeg) (0 : Int32).toNatClampNeg p1)) (8 : Int32).toNatClampNeg (upd ((updR q4.1 (8 : Int32).toNatClampNeg (upd (q4.1 (8 : Int32).toNatClampNeg) (0 : Int32).toNatClampNeg p1)) (8 : Int32).toNatClampNeg) (1 : Int32).toNatClampNeg p2)) (8 : Int32).toNatClampNeg) (2 : Int32).toNatClampNeg p3)) q4.2.1 q4.2.2) n z11 = some q11 → va_P G vwCl (wE cI cJ cA aE aR (updR (updR (updR q4.1 (8 : Int32).toNatClampNeg (upd (q4.1 (8 : Int32).toNatClampNeg) (0 : Int32).toNatClampNeg p1)) (8 : Int32).toNatClampNeg (upd ((updR q4.1 (8 : Int32).toNatClampNeg (upd (q4.1 (8 : Int32).toNatClampNeg) (0 : Int32).toNatClampNeg p1)) (8 : Int32).toNatClampNeg) (1 : Int32).toNatClampNeg p2)) (8 : Int32).toNatClampNeg (upd ((updR (updR q4.1 (8 : Int32).toNatClampNeg (upd (q4.1 (8 : Int32).toNatClampNeg) (0 : Int32).toNatClampNeg p1)) (8 : Int32).toNatClampNeg (upd ((updR q4.1 (8 : Int32).toNatClampNeg (upd (q4.1 (8 : Int32).toNatClampNeg) (0 : Int32).toNatClampNeg p1)) (8 : Int32).toNatClampNeg) (1 : Int32).toNatClampNeg p2)) (8 : Int32).toNatClampNeg) (2 : Int32).toNatClampNeg p3)) q4.2.1 z11.1 z11.2.1 z11.2.2.1 z11.2.2.2.1 q4.2.2 z11.2.2.2.2.1 ++ (wS cI cJ aS pr pu ta se qu im su tc sc rc cn so ++ ([] : va_W))) H → va_D A (wE cI cJ cA aE aR (updR (updR (updR q4.1 (8 : Int32).toNatClampNeg (upd (q4.1 (8 : Int32).toNatClampNeg) (0 : Int32).toNatClampNeg p1)) (8 : Int32).toNatClampNeg (upd ((updR q4.1 (8 : Int32).toNatClampNeg (upd (q4.1 (8 : Int32).toNatClampNeg) (0 : Int32).toNatClampNeg p1)) (8 : Int32).toNatClampNeg) (1 : Int32).toNatClampNeg p2)) (8 : Int32).toNatClampNeg (upd ((updR (updR q4.1 (8 : Int32).toNatClampNeg (upd (q4.1 (8 : Int32).toNatClampNeg) (0 : Int32).toNatClampNeg p1)) (8 : Int32).toNatClampNeg (upd ((updR q4.1 (8 : Int32).toNatClampNeg (upd (q4.1 (8 : Int32).toNatClampNeg) (0 : Int32).toNatClampNeg p1)) (8 : Int32).toNatClampNeg) (1 : Int32).toNatClampNeg p2)) (8 : Int32).toNatClampNeg) (2 : Int32).toNatClampNeg p3)) q4.2.1 z11.1 z11.2.1 z11.2.2.1 z11.2.2.2.1 q4.2.2 z11.2.2.2.2.1 ++ (wS cI cJ aS pr pu ta se qu im su tc sc rc cn so ++ ([] : va_W))) → va_S A s.heap H locs → lv_has ls 8 [(0, .ref (aE 0)), (1, .ref (aS 0)), (5, .int z11.2.2.2.2.2)] → W p l ev ({ frames := 5, cells := 0, slots := 0, locals := 109 } : Room) s m ([.ref (aE 0), .ref (aS 0), .int p1, .int p2, .int p3] : List Value).toArray below meth c H locs 0 0 (MQ below (qV G (ty5 cI cJ cZ cO cA) A (wE cI cJ cA aE aR res.1 res.2.1 res.2.2.1 res.2.2.2.1 res.2.2.2.2.1 res.2.2.2.2.2.1 res.2.2.2.2.2.2.1 res.2.2.2.2.2.2.2 ++ (wS cI cJ aS pr pu ta se qu im su tc sc rc cn so ++ ([] : va_W)))) ([.ref (aE 0), .ref (aS 0), .int p1, .int p2, .int p3] : List Value).toArray s 0 0 A) (F0 m 62 ls []) := by
      intro n
      induction n with
      | zero => intro z11 H locs ls h; cases h
      | succ n ih11 =>
        intro z11 H locs ls h hP hD hS hl
        obtain ⟨o11, h, h11⟩ := lp_s h
        unfold f_X1_find_b62 at h
        refine lv_iload hx hb dX1_find_62 (lv_at hl 2 rfl) ?_
        refine lv_aload_n hx hb dX1_find_64 rfl (lv_at hl 1 rfl) ?_
        refine va_getN (D := G) (ci := 2) (v := .int tc) (C := RX2) (T := TX2) (N := 12) hx hb hts uX2 hown hK hP 13 rfl rfl 7 (by decide) (hE.nw nk40) (fun _ h9 => h9) rfl dX1_find_65 ?_
        refine lv_icmp_ge (tgt := 157) hx hb dX1_find_68 (by decide) (fun c12 => ?_) (fun c12 => ?_)
        · replace h := (if_pos c12).symm.trans h
          rw [← Option.some.inj h] at h11
          exact hX11_0 (z11.1, z11.2.1, z11.2.2.1, z11.2.2.2.1, z11.2.2.2.2.1) _ _ _ (lp_x h11) hP hD hS (lv_sub hl [] rfl)
        · replace h := (if_neg c12).symm.trans h
          refine lv_iload hx hb dX1_find_71 (lv_at hl 2 rfl) ?_
          refine lv_iconst (v := 1) hx hb dX1_find_73 (by decide) ?_
          refine lv_iadd hx hb dX1_find_74 ?_
          refine lv_istore (lv' := [(6, .int (z11.2.2.2.2.2 + 1)), (0, .ref (aE 0)), (1, .ref (aS 0)), (5, .int z11.2.2.2.2.2)]) hx hb dX1_find_75 hl (by decide) rfl (fun ls hl => ?_)
          obtain ⟨q13, hq13, h⟩ := bd_s h
          have hX13_0 : ∀ (x13 : (Nat → Int64) × Int64 × Int64 × Int32 × Int32) (H : Heap) (locs : List Loc) (ls : Array Slot), x13 = q13 → va_P G vwCl (wE cI cJ cA aE aR (updR (updR (updR q4.1 (8 : Int32).toNatClampNeg (upd (q4.1 (8 : Int32).toNatClampNeg) (0 : Int32).toNatClampNeg p1)) (8 : Int32).toNatClampNeg (upd ((updR q4.1 (8 : Int32).toNatClampNeg (upd (q4.1 (8 : Int32).toNatClampNeg) (0 : Int32).toNatClampNeg p1)) (8 : Int32).toNatClampNeg) (1 : Int32).toNatClampNeg p2)) (8 : Int32).toNatClampNeg (upd ((updR (updR q4.1 (8 : Int32).toNatClampNeg (upd (q4.1 (8 : Int32).toNatClampNeg) (0 : Int32).toNatClampNeg p1)) (8 : Int32).toNatClampNeg (upd ((updR q4.1 (8 : Int32).toNatClampNeg (upd (q4.1 (8 : Int32).toNatClampNeg) (0 : Int32).toNatClampNeg p1)) (8 : Int32).toNatClampNeg) (1 : Int32).toNatClampNeg p2)) (8 : Int32).toNatClampNeg) (2 : Int32).toNatClampNeg p3)) q4.2.1 x13.1 x13.2.1 x13.2.2.1 x13.2.2.2.1 q4.2.2 x13.2.2.2.2 ++ (wS cI cJ aS pr pu ta se qu im su tc sc rc cn so ++ ([] : va_W))) H → va_D A (wE cI cJ cA aE aR (updR (updR (updR q4.1 (8 : Int32).toNatClampNeg (upd (q4.1 (8 : Int32).toNatClampNeg) (0 : Int32).toNatClampNeg p1)) (8 : Int32).toNatClampNeg (upd ((updR q4.1 (8 : Int32).toNatClampNeg (upd (q4.1 (8 : Int32).toNatClampNeg) (0 : Int32).toNatClampNeg p1)) (8 : Int32).toNatClampNeg) (1 : Int32).toNatClampNeg p2)) (8 : Int32).toNatClampNeg (upd ((updR (updR q4.1 (8 : Int32).toNatClampNeg (upd (q4.1 (8 : Int32).toNatClampNeg) (0 : Int32).toNatClampNeg p1)) (8 : Int32).toNatClampNeg (upd ((updR q4.1 (8 : Int32).toNatClampNeg (upd (q4.1 (8 : Int32).toNatClampNeg) (0 : Int32).toNatClampNeg p1)) (8 : Int32).toNatClampNeg) (1 : Int32).toNatClampNeg p2)) (8 : Int32).toNatClampNeg) (2 : Int32).toNatClampNeg p3)) q4.2.1 x13.1 x13.2.1 x13.2.2.1 x13.2.2.2.1 q4.2.2 x13.2.2.2.2 ++ (wS cI cJ aS pr pu ta se qu im su tc sc rc cn so ++ ([] : va_W))) → va_S A s.heap H locs → lv_has ls 8 [(0, .ref (aE 0)), (1, .ref (aS 0)), (5, .int z11.2.2.2.2.2)] → W p l ev ({ frames := 5, cells := 0, slots := 0, locals := 109 } : Room) s m ([.ref (aE 0), .ref (aS 0), .int p1, .int p2, .int p3] : List Value).toArray below meth c H locs 0 0 (MQ below (qV G (ty5 cI cJ cZ cO cA) A (wE cI cJ cA aE aR res.1 res.2.1 res.2.2.1 res.2.2.2.1 res.2.2.2.2.1 res.2.2.2.2.2.1 res.2.2.2.2.2.2.1 res.2.2.2.2.2.2.2 ++ (wS cI cJ aS pr pu ta se qu im su tc sc rc cn so ++ ([] : va_W)))) ([.ref (aE 0), .ref (aS 0), .int p1, .int p2, .int p3] : List Value).toArray s 0 0 A) (F0 m 151 ls []) := by
            intro x13 H locs ls e13 hP hD hS hl
            replace e13 := e13.symm
            subst e13
            refine lv_iinc (v := (z11.2.2.2.2.2 + 1)) (lv' := [(5, .int (z11.2.2.2.2.2 + 1)), (0, .ref (aE 0)), (1, .ref (aS 0))]) hx hb dX1_find_151 hl (k := 2) rfl rfl (by decide) rfl (fun ls hl => ?_)
            refine lv_goto (tgt := 62) hx hb dX1_find_154 (by decide) ?_
            rw [← Option.some.inj h] at h11
            exact ih11 (q13.1, q13.2.1, q13.2.2.1, q13.2.2.2.1, q13.2.2.2.2, (z11.2.2.2.2.2 + 1)) _ _ _ (lp_b h11) hP hD hS (lv_sub hl [1, 2, 0] rfl)
          have hL13 : ∀ (n : Nat) (z13 : (Nat → Int64) × Int64 × Int64 × Int32 × Int32 × Int32) (H : Heap) (locs : List Loc) (ls : Array Slot), lp (f_X1_find_b77 pr ta se tc sc (updR (updR (updR q4.1 (8 : Int32).toNatClampNeg (upd (q4.1 (8 : Int32).toNatClampNeg) (0 : Int32).toNatClampNeg p1)) (8 : Int32).toNatClampNeg (upd ((updR q4.1 (8 : Int32).toNatClampNeg (upd (q4.1 (8 : Int32).toNatClampNeg) (0 : Int32).toNatClampNeg p1)) (8 : Int32).toNatClampNeg) (1 : Int32).toNatClampNeg p2)) (8 : Int32).toNatClampNeg (upd ((updR (updR q4.1 (8 : Int32).toNatClampNeg (upd (q4.1 (8 : Int32).toNatClampNeg) (0 : Int32).toNatClampNeg p1)) (8 : Int32).toNatClampNeg (upd ((updR q4.1 (8 : Int32).toNatClampNeg (upd (q4.1 (8 : Int32).toNatClampNeg) (0 : Int32).toNatClampNeg p1)) (8 : Int32).toNatClampNeg) (1 : Int32).toNatClampNeg p2)) (8 : Int32).toNatClampNeg) (2 : Int32).toNatClampNeg p3)) q4.2.1 q4.2.2 z11.2.2.2.2.2) n z13 = some q13 → va_P G vwCl (wE cI cJ cA aE aR (updR (updR (updR q4.1 (8 : Int32).toNatClampNeg (upd (q4.1 (8 : Int32).toNatClampNeg) (0 : Int32).toNatClampNeg p1)) (8 : Int32).toNatClampNeg (upd ((updR q4.1 (8 : Int32).toNatClampNeg (upd (q4.1 (8 : Int32).toNatClampNeg) (0 : Int32).toNatClampNeg p1)) (8 : Int32).toNatClampNeg) (1 : Int32).toNatClampNeg p2)) (8 : Int32).toNatClampNeg (upd ((updR (updR q4.1 (8 : Int32).toNatClampNeg (upd (q4.1 (8 : Int32).toNatClampNeg) (0 : Int32).toNatClampNeg p1)) (8 : Int32).toNatClampNeg (upd ((updR q4.1 (8 : Int32).toNatClampNeg (upd (q4.1 (8 : Int32).toNatClampNeg) (0 : Int32).toNatClampNeg p1)) (8 : Int32).toNatClampNeg) (1 : Int32).toNatClampNeg p2)) (8 : Int32).toNatClampNeg) (2 : Int32).toNatClampNeg p3)) q4.2.1 z13.1 z13.2.1 z13.2.2.1 z13.2.2.2.1 q4.2.2 z13.2.2.2.2.1 ++ (wS cI cJ aS pr pu ta se qu im su tc sc rc cn so ++ ([] : va_W))) H → va_D A (wE cI cJ cA aE aR (updR (updR (updR q4.1 (8 : Int32).toNatClampNeg (upd (q4.1 (8 : Int32).toNatClampNeg) (0 : Int32).toNatClampNeg p1)) (8 : Int32).toNatClampNeg (upd ((updR q4.1 (8 : Int32).toNatClampNeg (upd (q4.1 (8 : Int32).toNatClampNeg) (0 : Int32).toNatClampNeg p1)) (8 : Int32).toNatClampNeg) (1 : Int32).toNatClampNeg p2)) (8 : Int32).toNatClampNeg (upd ((updR (updR q4.1 (8 : Int32).toNatClampNeg (upd (q4.1 (8 : Int32).toNatClampNeg) (0 : Int32).toNatClampNeg p1)) (8 : Int32).toNatClampNeg (upd ((updR q4.1 (8 : Int32).toNatClampNeg (upd (q4.1 (8 : Int32).toNatClampNeg) (0 : Int32).toNatClampNeg p1)) (8 : Int32).toNatClampNeg) (1 : Int32).toNatClampNeg p2)) (8 : Int32).toNatClampNeg) (2 : Int32).toNatClampNeg p3)) q4.2.1 z13.1 z13.2.1 z13.2.2.1 z13.2.2.2.1 q4.2.2 z13.2.2.2.2.1 ++ (wS cI cJ aS pr pu ta se qu im su tc sc rc cn so ++ ([] : va_W))) → va_S A s.heap H locs → lv_has ls 8 [(0, .ref (aE 0)), (1, .ref (aS 0)), (5, .int z11.2.2.2.2.2), (6, .int z13.2.2.2.2.2)] → W p l ev ({ frames := 5, cells := 0, slots := 0, locals := 109 } : Room) s m ([.ref (aE 0), .ref (aS 0), .int p1, .int p2, .int p3] : List Value).toArray below meth c H locs 0 0 (MQ below (qV G (ty5 cI cJ cZ cO cA) A (wE cI cJ cA aE aR res.1 res.2.1 res.2.2.1 res.2.2.2.1 res.2.2.2.2.1 res.2.2.2.2.2.1 res.2.2.2.2.2.2.1 res.2.2.2.2.2.2.2 ++ (wS cI cJ aS pr pu ta se qu im su tc sc rc cn so ++ ([] : va_W)))) ([.ref (aE 0), .ref (aS 0), .int p1, .int p2, .int p3] : List Value).toArray s 0 0 A) (F0 m 77 ls []) := by
            intro n
            induction n with
            | zero => intro z13 H locs ls h; cases h
            | succ n ih13 =>
              intro z13 H locs ls h hP hD hS hl
              obtain ⟨o13, h, h13⟩ := lp_s h
              unfold f_X1_find_b77 at h
              refine lv_iload hx hb dX1_find_77 (lv_at hl 3 rfl) ?_
              refine lv_aload_n hx hb dX1_find_79 rfl (lv_at hl 1 rfl) ?_
              refine va_getN (D := G) (ci := 2) (v := .int tc) (C := RX2) (T := TX2) (N := 12) hx hb hts uX2 hown hK hP 13 rfl rfl 7 (by decide) (hE.nw nk40) (fun _ h9 => h9) rfl dX1_find_80 ?_
              refine lv_icmp_ge (tgt := 151) hx hb dX1_find_83 (by decide) (fun c14 => ?_) (fun c14 => ?_)
              · replace h := (if_pos c14).symm.trans h
                rw [← Option.some.inj h] at h13
                exact hX13_0 (z13.1, z13.2.1, z13.2.2.1, z13.2.2.2.1, z13.2.2.2.2.1) _ _ _ (lp_x h13) hP hD hS (lv_sub hl [0, 1, 2] rfl)
              · replace h := (if_neg c14).symm.trans h
                refine lv_iload hx hb dX1_find_86 (lv_at hl 3 rfl) ?_
                refine lv_iconst (v := 1) hx hb dX1_find_88 (by decide) ?_
                refine lv_iadd hx hb dX1_find_89 ?_
                refine lv_istore (lv' := [(7, .int (z13.2.2.2.2.2 + 1)), (0, .ref (aE 0)), (1, .ref (aS 0)), (5, .int z11.2.2.2.2.2), (6, .int z13.2.2.2.2.2)]) hx hb dX1_find_90 hl (by decide) rfl (fun ls hl => ?_)
                obtain ⟨q15, hq15, h⟩ := bd_s h
                have hX15_0 : ∀ (x15 : (Nat → Int64) × Int64 × Int64 × Int32 × Int32) (H : Heap) (locs : List Loc) (ls : Array Slot), x15 = q15 → va_P G vwCl (wE cI cJ cA aE aR (updR (updR (updR q4.1 (8 : Int32).toNatClampNeg (upd (q4.1 (8 : Int32).toNatClampNeg) (0 : Int32).toNatClampNeg p1)) (8 : Int32).toNatClampNeg (upd ((updR q4.1 (8 : Int32).toNatClampNeg (upd (q4.1 (8 : Int32).toNatClampNeg) (0 : Int32).toNatClampNeg p1)) (8 : Int32).toNatClampNeg) (1 : Int32).toNatClampNeg p2)) (8 : Int32).toNatClampNeg (upd ((updR (updR q4.1 (8 : Int32).toNatClampNeg (upd (q4.1 (8 : Int32).toNatClampNeg) (0 : Int32).toNatClampNeg p1)) (8 : Int32).toNatClampNeg (upd ((updR q4.1 (8 : Int32).toNatClampNeg (upd (q4.1 (8 : Int32).toNatClampNeg) (0 : Int32).toNatClampNeg p1)) (8 : Int32).toNatClampNeg) (1 : Int32).toNatClampNeg p2)) (8 : Int32).toNatClampNeg) (2 : Int32).toNatClampNeg p3)) q4.2.1 x15.1 x15.2.1 x15.2.2.1 x15.2.2.2.1 q4.2.2 x15.2.2.2.2 ++ (wS cI cJ aS pr pu ta se qu im su tc sc rc cn so ++ ([] : va_W))) H → va_D A (wE cI cJ cA aE aR (updR (updR (updR q4.1 (8 : Int32).toNatClampNeg (upd (q4.1 (8 : Int32).toNatClampNeg) (0 : Int32).toNatClampNeg p1)) (8 : Int32).toNatClampNeg (upd ((updR q4.1 (8 : Int32).toNatClampNeg (upd (q4.1 (8 : Int32).toNatClampNeg) (0 : Int32).toNatClampNeg p1)) (8 : Int32).toNatClampNeg) (1 : Int32).toNatClampNeg p2)) (8 : Int32).toNatClampNeg (upd ((updR (updR q4.1 (8 : Int32).toNatClampNeg (upd (q4.1 (8 : Int32).toNatClampNeg) (0 : Int32).toNatClampNeg p1)) (8 : Int32).toNatClampNeg (upd ((updR q4.1 (8 : Int32).toNatClampNeg (upd (q4.1 (8 : Int32).toNatClampNeg) (0 : Int32).toNatClampNeg p1)) (8 : Int32).toNatClampNeg) (1 : Int32).toNatClampNeg p2)) (8 : Int32).toNatClampNeg) (2 : Int32).toNatClampNeg p3)) q4.2.1 x15.1 x15.2.1 x15.2.2.1 x15.2.2.2.1 q4.2.2 x15.2.2.2.2 ++ (wS cI cJ aS pr pu ta se qu im su tc sc rc cn so ++ ([] : va_W))) → va_S A s.heap H locs → lv_has ls 8 [(0, .ref (aE 0)), (1, .ref (aS 0)), (5, .int z11.2.2.2.2.2), (6, .int z13.2.2.2.2.2)] → W p l ev ({ frames := 5, cells := 0, slots := 0, locals := 109 } : Room) s m ([.ref (aE 0), .ref (aS 0), .int p1, .int p2, .int p3] : List Value).toArray below meth c H locs 0 0 (MQ below (qV G (ty5 cI cJ cZ cO cA) A (wE cI cJ cA aE aR res.1 res.2.1 res.2.2.1 res.2.2.2.1 res.2.2.2.2.1 res.2.2.2.2.2.1 res.2.2.2.2.2.2.1 res.2.2.2.2.2.2.2 ++ (wS cI cJ aS pr pu ta se qu im su tc sc rc cn so ++ ([] : va_W)))) ([.ref (aE 0), .ref (aS 0), .int p1, .int p2, .int p3] : List Value).toArray s 0 0 A) (F0 m 145 ls []) := by
                  intro x15 H locs ls e15 hP hD hS hl
                  replace e15 := e15.symm
                  subst e15
                  refine lv_iinc (v := (z13.2.2.2.2.2 + 1)) (lv' := [(6, .int (z13.2.2.2.2.2 + 1)), (0, .ref (aE 0)), (1, .ref (aS 0)), (5, .int z11.2.2.2.2.2)]) hx hb dX1_find_145 hl (k := 3) rfl rfl (by decide) rfl (fun ls hl => ?_)
                  refine lv_goto (tgt := 77) hx hb dX1_find_148 (by decide) ?_
                  rw [← Option.some.inj h] at h13
                  exact ih13 (q15.1, q15.2.1, q15.2.2.1, q15.2.2.2.1, q15.2.2.2.2, (z13.2.2.2.2.2 + 1)) _ _ _ (lp_b h13) hP hD hS (lv_sub hl [1, 2, 3, 0] rfl)
                have hL15 : ∀ (n : Nat) (z15 : (Nat → Int64) × Int64 × Int64 × Int32 × Int32 × Int32) (H : Heap) (locs : List Loc) (ls : Array Slot), lp (f_X1_find_b92 pr ta se tc sc (updR (updR (updR q4.1 (8 : Int32).toNatClampNeg (upd (q4.1 (8 : Int32).toNatClampNeg) (0 : Int32).toNatClampNeg p1)) (8 : Int32).toNatClampNeg (upd ((updR q4.1 (8 : Int32).toNatClampNeg (upd (q4.1 (8 : Int32).toNatClampNeg) (0 : Int32).toNatClampNeg p1)) (8 : Int32).toNatClampNeg) (1 : Int32).toNatClampNeg p2)) (8 : Int32).toNatClampNeg (upd ((updR (updR q4.1 (8 : Int32).toNatClampNeg (upd (q4.1 (8 : Int32).toNatClampNeg) (0 : Int32).toNatClampNeg p1)) (8 : Int32).toNatClampNeg (upd ((updR q4.1 (8 : Int32).toNatClampNeg (upd (q4.1 (8 : Int32).toNatClampNeg) (0 : Int32).toNatClampNeg p1)) (8 : Int32).toNatClampNeg) (1 : Int32).toNatClampNeg p2)) (8 : Int32).toNatClampNeg) (2 : Int32).toNatClampNeg p3)) q4.2.1 q4.2.2 z11.2.2.2.2.2 z13.2.2.2.2.2) n z15 = some q15 → va_P G vwCl (wE cI cJ cA aE aR (updR (updR (updR q4.1 (8 : Int32).toNatClampNeg (upd (q4.1 (8 : Int32).toNatClampNeg) (0 : Int32).toNatClampNeg p1)) (8 : Int32).toNatClampNeg (upd ((updR q4.1 (8 : Int32).toNatClampNeg (upd (q4.1 (8 : Int32).toNatClampNeg) (0 : Int32).toNatClampNeg p1)) (8 : Int32).toNatClampNeg) (1 : Int32).toNatClampNeg p2)) (8 : Int32).toNatClampNeg (upd ((updR (updR q4.1 (8 : Int32).toNatClampNeg (upd (q4.1 (8 : Int32).toNatClampNeg) (0 : Int32).toNatClampNeg p1)) (8 : Int32).toNatClampNeg (upd ((updR q4.1 (8 : Int32).toNatClampNeg (upd (q4.1 (8 : Int32).toNatClampNeg) (0 : Int32).toNatClampNeg p1)) (8 : Int32).toNatClampNeg) (1 : Int32).toNatClampNeg p2)) (8 : Int32).toNatClampNeg) (2 : Int32).toNatClampNeg p3)) q4.2.1 z15.1 z15.2.1 z15.2.2.1 z15.2.2.2.1 q4.2.2 z15.2.2.2.2.1 ++ (wS cI cJ aS pr pu ta se qu im su tc sc rc cn so ++ ([] : va_W))) H → va_D A (wE cI cJ cA aE aR (updR (updR (updR q4.1 (8 : Int32).toNatClampNeg (upd (q4.1 (8 : Int32).toNatClampNeg) (0 : Int32).toNatClampNeg p1)) (8 : Int32).toNatClampNeg (upd ((updR q4.1 (8 : Int32).toNatClampNeg (upd (q4.1 (8 : Int32).toNatClampNeg) (0 : Int32).toNatClampNeg p1)) (8 : Int32).toNatClampNeg) (1 : Int32).toNatClampNeg p2)) (8 : Int32).toNatClampNeg (upd ((updR (updR q4.1 (8 : Int32).toNatClampNeg (upd (q4.1 (8 : Int32).toNatClampNeg) (0 : Int32).toNatClampNeg p1)) (8 : Int32).toNatClampNeg (upd ((updR q4.1 (8 : Int32).toNatClampNeg (upd (q4.1 (8 : Int32).toNatClampNeg) (0 : Int32).toNatClampNeg p1)) (8 : Int32).toNatClampNeg) (1 : Int32).toNatClampNeg p2)) (8 : Int32).toNatClampNeg) (2 : Int32).toNatClampNeg p3)) q4.2.1 z15.1 z15.2.1 z15.2.2.1 z15.2.2.2.1 q4.2.2 z15.2.2.2.2.1 ++ (wS cI cJ aS pr pu ta se qu im su tc sc rc cn so ++ ([] : va_W))) → va_S A s.heap H locs → lv_has ls 8 [(0, .ref (aE 0)), (1, .ref (aS 0)), (5, .int z11.2.2.2.2.2), (6, .int z13.2.2.2.2.2), (7, .int z15.2.2.2.2.2)] → W p l ev ({ frames := 5, cells := 0, slots := 0, locals := 109 } : Room) s m ([.ref (aE 0), .ref (aS 0), .int p1, .int p2, .int p3] : List Value).toArray below meth c H locs 0 0 (MQ below (qV G (ty5 cI cJ cZ cO cA) A (wE cI cJ cA aE aR res.1 res.2.1 res.2.2.1 res.2.2.2.1 res.2.2.2.2.1 res.2.2.2.2.2.1 res.2.2.2.2.2.2.1 res.2.2.2.2.2.2.2 ++ (wS cI cJ aS pr pu ta se qu im su tc sc rc cn so ++ ([] : va_W)))) ([.ref (aE 0), .ref (aS 0), .int p1, .int p2, .int p3] : List Value).toArray s 0 0 A) (F0 m 92 ls []) := by
                  intro n
                  induction n with
                  | zero => intro z15 H locs ls h; cases h
                  | succ n ih15 =>
                    intro z15 H locs ls h hP hD hS hl
                    obtain ⟨o15, h, h15⟩ := lp_s h
                    unfold f_X1_find_b92 at h
                    refine lv_iload hx hb dX1_find_92 (lv_at hl 4 rfl) ?_
                    refine lv_aload_n hx hb dX1_find_94 rfl (lv_at hl 1 rfl) ?_
                    refine va_getN (D := G) (ci := 2) (v := .int tc) (C := RX2) (T := TX2) (N := 12) hx hb hts uX2 hown hK hP 13 rfl rfl 7 (by decide) (hE.nw nk40) (fun _ h9 => h9) rfl dX1_find_95 ?_
                    refine lv_icmp_ge (tgt := 145) hx hb dX1_find_98 (by decide) (fun c16 => ?_) (fun c16 => ?_)
                    · replace h := (if_pos c16).symm.trans h
                      rw [← Option.some.inj h] at h15
                      exact hX15_0 (z15.1, z15.2.1, z15.2.2.1, z15.2.2.2.1, z15.2.2.2.2.1) _ _ _ (lp_x h15) hP hD hS (lv_sub hl [0, 1, 2, 3] rfl)
                    · replace h := (if_neg c16).symm.trans h
                      refine lv_aload_n hx hb dX1_find_101 rfl (lv_at hl 1 rfl) ?_
                      refine lv_iload hx hb dX1_find_102 (lv_at hl 2 rfl) ?_
                      obtain ⟨q17, hq17, h⟩ := bd_s h
                      refine kVi (n := 1) (C := RX2) (ws' := wE cI cJ cA aE aR (updR (updR (updR q4.1 (8 : Int32).toNatClampNeg (upd (q4.1 (8 : Int32).toNatClampNeg) (0 : Int32).toNatClampNeg p1)) (8 : Int32).toNatClampNeg (upd ((updR q4.1 (8 : Int32).toNatClampNeg (upd (q4.1 (8 : Int32).toNatClampNeg) (0 : Int32).toNatClampNeg p1)) (8 : Int32).toNatClampNeg) (1 : Int32).toNatClampNeg p2)) (8 : Int32).toNatClampNeg (upd ((updR (updR q4.1 (8 : Int32).toNatClampNeg (upd (q4.1 (8 : Int32).toNatClampNeg) (0 : Int32).toNatClampNeg p1)) (8 : Int32).toNatClampNeg (upd ((updR q4.1 (8 : Int32).toNatClampNeg (upd (q4.1 (8 : Int32).toNatClampNeg) (0 : Int32).toNatClampNeg p1)) (8 : Int32).toNatClampNeg) (1 : Int32).toNatClampNeg p2)) (8 : Int32).toNatClampNeg) (2 : Int32).toNatClampNeg p3)) q4.2.1 z15.1 z15.2.1 z15.2.2.1 z15.2.2.2.1 q4.2.2 z15.2.2.2.2.1 ++ (wS cI cJ aS pr pu ta se qu im su tc sc rc cn so ++ ([] : va_W))) (As := [.int z11.2.2.2.2.2]) (rest := []) hx hb hml hown hts (c_X2_isUsable l G cI cJ cZ cO cA e aS _ pr pu ta se qu im su tc sc rc cn so z11.2.2.2.2.2 hq17) (tb_V kw312 kw313 kw314 kw2 kw315) rfl rfl (by decide +kernel) ⟨Nat.le_of_ble_eq_true rfl, Nat.le_of_ble_eq_true rfl⟩ hK hP hD hS hA hE 13 rfl rfl [13, 14, 15, 16, 17, 18, 19, 20] [0, 1, 2, 3, 4, 5, 6, 7, 8, 9, 10, 11, 12] rfl rfl rfl 21 ⟨rfl, rfl⟩ (by decide +kernel) (by decide +kernel) rfl rfl hl.1 (Nat.le_of_ble_eq_true rfl) ⟨Nat.zero_le _, Nat.zero_le _⟩ dX1_find_104 (fun H locs hP hD hS => ?_)
                      refine lv_if_eq (tgt := 139) hx hb dX1_find_107 (by decide) (fun c18 => ?_) (fun c18 => ?_)
                      · replace h := (if_pos c18).symm.trans h
                        refine lv_iinc (v := (z15.2.2.2.2.2 + 1)) (lv' := [(7, .int (z15.2.2.2.2.2 + 1)), (0, .ref (aE 0)), (1, .ref (aS 0)), (5, .int z11.2.2.2.2.2), (6, .int z13.2.2.2.2.2)]) hx hb dX1_find_139 hl (k := 4) rfl rfl (by decide) rfl (fun ls hl => ?_)
                        refine lv_goto (tgt := 92) hx hb dX1_find_142 (by decide) ?_
                        rw [← Option.some.inj h] at h15
                        exact ih15 (z15.1, z15.2.1, z15.2.2.1, z15.2.2.2.1, z15.2.2.2.2.1, (z15.2.2.2.2.2 + 1)) _ _ _ (lp_b h15) hP hD hS (lv_sub hl [1, 2, 3, 4, 0] rfl)
                      · replace h := (if_neg c18).symm.trans h
                        refine lv_aload_n hx hb dX1_find_110 rfl (lv_at hl 1 rfl) ?_
                        refine lv_iload hx hb dX1_find_111 (lv_at hl 3 rfl) ?_
                        obtain ⟨q19, hq19, h⟩ := bd_s h
                        refine kVi (n := 1) (C := RX2) (ws' := wE cI cJ cA aE aR (updR (updR (updR q4.1 (8 : Int32).toNatClampNeg (upd (q4.1 (8 : Int32).toNatClampNeg) (0 : Int32).toNatClampNeg p1)) (8 : Int32).toNatClampNeg (upd ((updR q4.1 (8 : Int32).toNatClampNeg (upd (q4.1 (8 : Int32).toNatClampNeg) (0 : Int32).toNatClampNeg p1)) (8 : Int32).toNatClampNeg) (1 : Int32).toNatClampNeg p2)) (8 : Int32).toNatClampNeg (upd ((updR (updR q4.1 (8 : Int32).toNatClampNeg (upd (q4.1 (8 : Int32).toNatClampNeg) (0 : Int32).toNatClampNeg p1)) (8 : Int32).toNatClampNeg (upd ((updR q4.1 (8 : Int32).toNatClampNeg (upd (q4.1 (8 : Int32).toNatClampNeg) (0 : Int32).toNatClampNeg p1)) (8 : Int32).toNatClampNeg) (1 : Int32).toNatClampNeg p2)) (8 : Int32).toNatClampNeg) (2 : Int32).toNatClampNeg p3)) q4.2.1 z15.1 z15.2.1 z15.2.2.1 z15.2.2.2.1 q4.2.2 z15.2.2.2.2.1 ++ (wS cI cJ aS pr pu ta se qu im su tc sc rc cn so ++ ([] : va_W))) (As := [.int z13.2.2.2.2.2]) (rest := []) hx hb hml hown hts (c_X2_isUsable l G cI cJ cZ cO cA e aS _ pr pu ta se qu im su tc sc rc cn so z13.2.2.2.2.2 hq19) (tb_V kw312 kw313 kw314 kw2 kw315) rfl rfl (by decide +kernel) ⟨Nat.le_of_ble_eq_true rfl, Nat.le_of_ble_eq_true rfl⟩ hK hP hD hS hA hE 13 rfl rfl [13, 14, 15, 16, 17, 18, 19, 20] [0, 1, 2, 3, 4, 5, 6, 7, 8, 9, 10, 11, 12] rfl rfl rfl 21 ⟨rfl, rfl⟩ (by decide +kernel) (by decide +kernel) rfl rfl hl.1 (Nat.le_of_ble_eq_true rfl) ⟨Nat.zero_le _, Nat.zero_le _⟩ dX1_find_113 (fun H locs hP hD hS => ?_)
                        refine lv_if_eq (tgt := 139) hx hb dX1_find_116 (by decide) (fun c20 => ?_) (fun c20 => ?_)
                        · replace h := (if_pos c20).symm.trans h
                          refine lv_iinc (v := (z15.2.2.2.2.2 + 1)) (lv' := [(7, .int (z15.2.2.2.2.2 + 1)), (0, .ref (aE 0)), (1, .ref (aS 0)), (5, .int z11.2.2.2.2.2), (6, .int z13.2.2.2.2.2)]) hx hb dX1_find_139 hl (k := 4) rfl rfl (by decide) rfl (fun ls hl => ?_)
                          refine lv_goto (tgt := 92) hx hb dX1_find_142 (by decide) ?_
                          rw [← Option.some.inj h] at h15
                          exact ih15 (z15.1, z15.2.1, z15.2.2.1, z15.2.2.2.1, z15.2.2.2.2.1, (z15.2.2.2.2.2 + 1)) _ _ _ (lp_b h15) hP hD hS (lv_sub hl [1, 2, 3, 4, 0] rfl)
                        · replace h := (if_neg c20).symm.trans h
                          refine lv_aload_n hx hb dX1_find_119 rfl (lv_at hl 1 rfl) ?_
                          refine lv_iload hx hb dX1_find_120 (lv_at hl 4 rfl) ?_
                          obtain ⟨q21, hq21, h⟩ := bd_s h
                          refine kVi (n := 1) (C := RX2) (ws' := wE cI cJ cA aE aR (updR (updR (updR q4.1 (8 : Int32).toNatClampNeg (upd (q4.1 (8 : Int32).toNatClampNeg) (0 : Int32).toNatClampNeg p1)) (8 : Int32).toNatClampNeg (upd ((updR q4.1 (8 : Int32).toNatClampNeg (upd (q4.1 (8 : Int32).toNatClampNeg) (0 : Int32).toNatClampNeg p1)) (8 : Int32).toNatClampNeg) (1 : Int32).toNatClampNeg p2)) (8 : Int32).toNatClampNeg (upd ((updR (updR q4.1 (8 : Int32).toNatClampNeg (upd (q4.1 (8 : Int32).toNatClampNeg) (0 : Int32).toNatClampNeg p1)) (8 : Int32).toNatClampNeg (upd ((updR q4.1 (8 : Int32).toNatClampNeg (upd (q4.1 (8 : Int32).toNatClampNeg) (0 : Int32).toNatClampNeg p1)) (8 : Int32).toNatClampNeg) (1 : Int32).toNatClampNeg p2)) (8 : Int32).toNatClampNeg) (2 : Int32).toNatClampNeg p3)) q4.2.1 z15.1 z15.2.1 z15.2.2.1 z15.2.2.2.1 q4.2.2 z15.2.2.2.2.1 ++ (wS cI cJ aS pr pu ta se qu im su tc sc rc cn so ++ ([] : va_W))) (As := [.int z15.2.2.2.2.2]) (rest := []) hx hb hml hown hts (c_X2_isUsable l G cI cJ cZ cO cA e aS _ pr pu ta se qu im su tc sc rc cn so z15.2.2.2.2.2 hq21) (tb_V kw312 kw313 kw314 kw2 kw315) rfl rfl (by decide +kernel) ⟨Nat.le_of_ble_eq_true rfl, Nat.le_of_ble_eq_true rfl⟩ hK hP hD hS hA hE 13 rfl rfl [13, 14, 15, 16, 17, 18, 19, 20] [0, 1, 2, 3, 4, 5, 6, 7, 8, 9, 10, 11, 12] rfl rfl rfl 21 ⟨rfl, rfl⟩ (by decide +kernel) (by decide +kernel) rfl rfl hl.1 (Nat.le_of_ble_eq_true rfl) ⟨Nat.zero_le _, Nat.zero_le _⟩ dX1_find_122 (fun H locs hP hD hS => ?_)
                          refine lv_if_eq (tgt := 139) hx hb dX1_find_125 (by decide) (fun c22 => ?_) (fun c22 => ?_)
                          · replace h := (if_pos c22).symm.trans h
                            refine lv_iinc (v := (z15.2.2.2.2.2 + 1)) (lv' := [(7, .int (z15.2.2.2.2.2 + 1)), (0, .ref (aE 0)), (1, .ref (aS 0)), (5, .int z11.2.2.2.2.2), (6, .int z13.2.2.2.2.2)]) hx hb dX1_find_139 hl (k := 4) rfl rfl (by decide) rfl (fun ls hl => ?_)
                            refine lv_goto (tgt := 92) hx hb dX1_find_142 (by decide) ?_
                            rw [← Option.some.inj h] at h15
                            exact ih15 (z15.1, z15.2.1, z15.2.2.1, z15.2.2.2.1, z15.2.2.2.2.1, (z15.2.2.2.2.2 + 1)) _ _ _ (lp_b h15) hP hD hS (lv_sub hl [1, 2, 3, 4, 0] rfl)
                          · replace h := (if_neg c22).symm.trans h
                            refine lv_aload_n hx hb dX1_find_128 rfl (lv_at hl 0 rfl) ?_
                            refine lv_aload_n hx hb dX1_find_129 rfl (lv_at hl 1 rfl) ?_
                            refine lv_iload hx hb dX1_find_130 (lv_at hl 2 rfl) ?_
                            refine lv_iload hx hb dX1_find_132 (lv_at hl 3 rfl) ?_
                            refine lv_iload hx hb dX1_find_134 (lv_at hl 4 rfl) ?_
                            obtain ⟨q23, hq23, h⟩ := bd_s h
                            refine kVv (n := 4) (C := RX1) (ws' := wE cI cJ cA aE aR (updR (updR (updR q4.1 (8 : Int32).toNatClampNeg (upd (q4.1 (8 : Int32).toNatClampNeg) (0 : Int32).toNatClampNeg p1)) (8 : Int32).toNatClampNeg (upd ((updR q4.1 (8 : Int32).toNatClampNeg (upd (q4.1 (8 : Int32).toNatClampNeg) (0 : Int32).toNatClampNeg p1)) (8 : Int32).toNatClampNeg) (1 : Int32).toNatClampNeg p2)) (8 : Int32).toNatClampNeg (upd ((updR (updR q4.1 (8 : Int32).toNatClampNeg (upd (q4.1 (8 : Int32).toNatClampNeg) (0 : Int32).toNatClampNeg p1)) (8 : Int32).toNatClampNeg (upd ((updR q4.1 (8 : Int32).toNatClampNeg (upd (q4.1 (8 : Int32).toNatClampNeg) (0 : Int32).toNatClampNeg p1)) (8 : Int32).toNatClampNeg) (1 : Int32).toNatClampNeg p2)) (8 : Int32).toNatClampNeg) (2 : Int32).toNatClampNeg p3)) q4.2.1 q23.1 q23.2.1 q23.2.2.1 q23.2.2.2.1 q4.2.2 q23.2.2.2.2 ++ (wS cI cJ aS pr pu ta se qu im su tc sc rc cn so ++ ([] : va_W))) (As := [.ref (aS 0), .int z11.2.2.2.2.2, .int z13.2.2.2.2.2, .int z15.2.2.2.2.2]) (rest := []) hx hb hml hown hts (c_X1_consider l G cI cJ cZ cO cA e aE aR aS _ (updR (updR (updR q4.1 (8 : Int32).toNatClampNeg (upd (q4.1 (8 : Int32).toNatClampNeg) (0 : Int32).toNatClampNeg p1)) (8 : Int32).toNatClampNeg (upd ((updR q4.1 (8 : Int32).toNatClampNeg (upd (q4.1 (8 : Int32).toNatClampNeg) (0 : Int32).toNatClampNeg p1)) (8 : Int32).toNatClampNeg) (1 : Int32).toNatClampNeg p2)) (8 : Int32).toNatClampNeg (upd ((updR (updR q4.1 (8 : Int32).toNatClampNeg (upd (q4.1 (8 : Int32).toNatClampNeg) (0 : Int32).toNatClampNeg p1)) (8 : Int32).toNatClampNeg (upd ((updR q4.1 (8 : Int32).toNatClampNeg (upd (q4.1 (8 : Int32).toNatClampNeg) (0 : Int32).toNatClampNeg p1)) (8 : Int32).toNatClampNeg) (1 : Int32).toNatClampNeg p2)) (8 : Int32).toNatClampNeg) (2 : Int32).toNatClampNeg p3)) q4.2.1 z15.1 z15.2.1 z15.2.2.1 z15.2.2.2.1 q4.2.2 z15.2.2.2.2.1 pr pu ta se qu im su tc sc rc cn so z11.2.2.2.2.2 z13.2.2.2.2.2 z15.2.2.2.2.2 hq23) (tb_V kw316 kw318 kv2 kw5 kw319) rfl rfl (by decide +kernel) ⟨Nat.le_of_ble_eq_true rfl, Nat.le_of_ble_eq_true rfl⟩ hK hP hD hS hA hE 0 rfl rfl [0, 1, 2, 3, 4, 5, 6, 7, 8, 9, 10, 11, 12, 13, 14, 15, 16, 17, 18, 19, 20] [] rfl rfl rfl 21 ⟨rfl, rfl⟩ (by decide +kernel) (by decide +kernel) rfl rfl hl.1 (Nat.le_of_ble_eq_true rfl) ⟨Nat.zero_le _, Nat.zero_le _⟩ dX1_find_136 (fun H locs hP hD hS => ?_)
                            refine lv_iinc (v := (z15.2.2.2.2.2 + 1)) (lv' := [(7, .int (z15.2.2.2.2.2 + 1)), (0, .ref (aE 0)), (1, .ref (aS 0)), (5, .int z11.2.2.2.2.2), (6, .int z13.2.2.2.2.2)]) hx hb dX1_find_139 hl (k := 4) rfl rfl (by decide) rfl (fun ls hl => ?_)
                            refine lv_goto (tgt := 92) hx hb dX1_find_142 (by decide) ?_
                            rw [← Option.some.inj h] at h15
                            exact ih15 (q23.1, q23.2.1, q23.2.2.1, q23.2.2.2.1, q23.2.2.2.2, (z15.2.2.2.2.2 + 1)) _ _ _ (lp_b h15) hP hD hS (lv_sub hl [1, 2, 3, 4, 0] rfl)
                exact hL15 _ (z13.1, z13.2.1, z13.2.2.1, z13.2.2.2.1, z13.2.2.2.2.1, (z13.2.2.2.2.2 + 1)) _ _ _ hq15 hP hD hS (lv_sub hl [1, 2, 3, 4, 0] rfl)
          exact hL13 _ (z11.1, z11.2.1, z11.2.2.1, z11.2.2.2.1, z11.2.2.2.2.1, (z11.2.2.2.2.2 + 1)) _ _ _ hq13 hP hD hS (lv_sub hl [1, 2, 3, 0] rfl)
    exact hL11 _ (sh_3, de_3, co_3, ma_3, fo_3, 0) _ _ _ hq11 hP hD hS (lv_sub hl [1, 2, 0] rfl)
  refine lv_if_ne (tgt := 23) hx hb dX1_find_5 (by decide) (fun c2 => ?_) (fun c2 => ?_)
  · replace h := (if_neg c2).symm.trans h
    exact hJ3 un tp q1.1 q1.2.1 q1.2.2.1 q1.2.2.2.1 ru q1.2.2.2.2 _ _ _ h hP hD hS (lv_sub hl [0, 1, 2, 3, 4] rfl)
  · replace h := (if_pos c2).symm.trans h
    refine lv_iload_n hx hb dX1_find_8 rfl (lv_at hl 3 rfl) ?_
    refine lv_if_ne (tgt := 23) hx hb dX1_find_9 (by decide) (fun c24 => ?_) (fun c24 => ?_)
    · replace h := (if_neg c24).symm.trans h
      exact hJ3 un tp q1.1 q1.2.1 q1.2.2.1 q1.2.2.2.1 ru q1.2.2.2.2 _ _ _ h hP hD hS (lv_sub hl [0, 1, 2, 3, 4] rfl)
    · replace h := (if_pos c24).symm.trans h
      refine lv_iload hx hb dX1_find_12 (lv_at hl 4 rfl) ?_
      refine lv_if_ne (tgt := 23) hx hb dX1_find_14 (by decide) (fun c25 => ?_) (fun c25 => ?_)
      · replace h := (if_neg c25).symm.trans h
        exact hJ3 un tp q1.1 q1.2.1 q1.2.2.1 q1.2.2.2.1 ru q1.2.2.2.2 _ _ _ h hP hD hS (lv_sub hl [0, 1, 2, 3, 4] rfl)
      · replace h := (if_pos c25).symm.trans h
        refine lv_aload_n hx hb dX1_find_17 rfl (lv_at hl 0 rfl) ?_
        refine lv_iconst (v := 1) hx hb dX1_find_18 (by decide) ?_
        refine va_put (D := G) (ci := 1) (ty := .boolean) (v := .int 1) (C := RX1) (T := TX1) (N := 8) hx hb hts uX1 tyX1 tyX1_ok nmX1 hown hK hP hD hS 0 rfl rfl 7 (by decide) (hts _ kw113) (fun _ h9 => h9) rfl (by decide +kernel) rfl rfl (Nat.le_of_ble_eq_true rfl) dX1_find_19 (fun H locs hP hD hS => ?_)
        have hP : va_P G vwCl (wE cI cJ cA aE aR un tp q1.1 q1.2.1 q1.2.2.1 q1.2.2.2.1 ru 1 ++ (wS cI cJ aS pr pu ta se qu im su tc sc rc cn so ++ ([] : va_W))) H := hP
        have hD : va_D A (wE cI cJ cA aE aR un tp q1.1 q1.2.1 q1.2.2.1 q1.2.2.2.1 ru 1 ++ (wS cI cJ aS pr pu ta se qu im su tc sc rc cn so ++ ([] : va_W))) := hD
        rw [← Option.some.inj h]
        exact krv hx hb hr hlk hP hD hS hK dX1_find_22

/-! X4_select -/
def f_X4_select (pr : Nat → Int32) (ta : Nat → Int32) (se : Nat → Int32) (tc : Int32) (sc : Int32) (un : Nat → Nat → Int32) (tp : Nat → Int32) (sh : Nat → Int64) (de : Int64) (co : Int64) (ma : Int32) (ru : Int32) (fo : Int32) (p0 : Int32) (p1 : Int32) (p2 : Int32) : Option (Int32 × (Nat → Nat → Int32) × (Nat → Int32) × (Nat → Int64) × Int64 × Int64 × Int32 × Int32 × Int32) :=
  (f_X4_isTarget p0 p1 p2).bind (fun q1 => if q1 = 0 then (some ((-2000000002), un, tp, sh, de, co, ma, ru, fo)) else ((f_X1_find pr ta se tc sc un tp sh de co ma ru fo p0 p1 p2).bind (fun q3 => if q3.2.2.2.2.2.2.2 = 0 then (some ((-2000000000), q3.1, q3.2.1, q3.2.2.1, q3.2.2.2.1, q3.2.2.2.2.1, q3.2.2.2.2.2.1, q3.2.2.2.2.2.2.1, q3.2.2.2.2.2.2.2)) else (some (q3.2.2.2.2.2.1, q3.1, q3.2.1, q3.2.2.1, q3.2.2.2.1, q3.2.2.2.2.1, q3.2.2.2.2.2.1, q3.2.2.2.2.2.2.1, q3.2.2.2.2.2.2.2)))))

set_option maxHeartbeats 4000000 in
set_option maxRecDepth 100000 in
theorem c_X4_select (l : Launch) (G : va_G) (cI cJ cZ cO cA : ClassId) (e : Nat × Nat) (aE : Nat → Nat) (aR : Nat → Nat) (aT : Nat) (aS : Nat → Nat) (aH : Nat → Nat) (aX : Nat → Nat) (sz : Nat) (un : Nat → Nat → Int32) (tp : Nat → Int32) (sh : Nat → Int64) (de : Int64) (co : Int64) (ma : Int32) (ru : Int32) (fo : Int32) (pr : Nat → Int32) (pu : Nat → Int32) (ta : Nat → Int32) (se : Nat → Int32) (qu : Nat → Int32) (im : Nat → Int32) (su : Nat → Int64) (tc : Int32) (sc : Int32) (rc : Int32) (cn : Int32) (so : Int32) (p0 : Int32) (p1 : Int32) (p2 : Int32) {res : Int32 × (Nat → Nat → Int32) × (Nat → Int32) × (Nat → Int64) × Int64 × Int64 × Int32 × Int32 × Int32} (hf : f_X4_select pr ta se tc sc un tp sh de co ma ru fo p0 p1 p2 = some res) : MetI l yX4_select cX4_select 4 .int ({ frames := 6, cells := 0, slots := 0, locals := 136 } : Room) [.ref aT, .int p0, .int p1, .int p2] G (ty5 cI cJ cZ cO cA) e (wE cI cJ cA aE aR un tp sh de co ma ru fo ++ (wT aT (aS 0) (aH 0) (aE 0) (aX 0) ++ (wS cI cJ aS pr pu ta se qu im su tc sc rc cn so ++ ([] : va_W)))) (wE cI cJ cA aE aR res.2.1 res.2.2.1 res.2.2.2.1 res.2.2.2.2.1 res.2.2.2.2.2.1 res.2.2.2.2.2.2.1 res.2.2.2.2.2.2.2.1 res.2.2.2.2.2.2.2.2 ++ (wT aT (aS 0) (aH 0) (aE 0) (aX 0) ++ (wS cI cJ aS pr pu ta se qu im su tc sc rc cn so ++ ([] : va_W)))) sz res.1 := by
  refine g_body (QQ := fun A => (qI G (ty5 cI cJ cZ cO cA) A (wE cI cJ cA aE aR res.2.1 res.2.2.1 res.2.2.2.1 res.2.2.2.2.1 res.2.2.2.2.2.1 res.2.2.2.2.2.2.1 res.2.2.2.2.2.2.2.1 res.2.2.2.2.2.2.2.2 ++ (wT aT (aS 0) (aH 0) (aE 0) (aX 0) ++ (wS cI cJ aS pr pu ta se qu im su tc sc rc cn so ++ ([] : va_W)))) res.1)) (own := RX4) (by decide) rfl (Nat.le_of_ble_eq_true rfl) ?_
  intro p ev s m below meth c A ls hx hb hr hml hown hts hlk hA hP hD hS hK hE hl
  have hl : lv_has ls 4 [(0, .ref aT), (1, .int p0), (2, .int p1), (3, .int p2)] := hl
  show W p l ev ({ frames := 6, cells := 0, slots := 0, locals := 136 } : Room) s m ([.ref aT, .int p0, .int p1, .int p2] : List Value).toArray below meth c s.heap [] 0 0 (MQ below (qI G (ty5 cI cJ cZ cO cA) A (wE cI cJ cA aE aR res.2.1 res.2.2.1 res.2.2.2.1 res.2.2.2.2.1 res.2.2.2.2.2.1 res.2.2.2.2.2.2.1 res.2.2.2.2.2.2.2.1 res.2.2.2.2.2.2.2.2 ++ (wT aT (aS 0) (aH 0) (aE 0) (aX 0) ++ (wS cI cJ aS pr pu ta se qu im su tc sc rc cn so ++ ([] : va_W)))) res.1) ([.ref aT, .int p0, .int p1, .int p2] : List Value).toArray s 0 0 A) (F0 m 0 ls [])
  have h := hf
  unfold f_X4_select at h
  refine lv_iload_n hx hb dX4_select_0 rfl (lv_at hl 1 rfl) ?_
  refine lv_iload_n hx hb dX4_select_1 rfl (lv_at hl 2 rfl) ?_
  refine lv_iload_n hx hb dX4_select_2 rfl (lv_at hl 3 rfl) ?_
  obtain ⟨q1, hq1, h⟩ := bd_s h
  refine kSi (n := 3) (As := [.int p0, .int p1, .int p2]) (rest := []) hx hb hml hown hts (c_X4_isTarget l G cI cJ cZ cO cA e _ p0 p1 p2 hq1) (tb_S kw293 kw294 kw1 kw295) rfl rfl (by decide +kernel) ⟨Nat.le_of_ble_eq_true rfl, Nat.le_of_ble_eq_true rfl⟩ hK hP hD hS hA hE rfl rfl hl.1 (Nat.le_of_ble_eq_true rfl) ⟨Nat.zero_le _, Nat.zero_le _⟩ dX4_select_3 (fun H locs hP hD hS => ?_)
  refine lv_if_ne (tgt := 12) hx hb dX4_select_6 (by decide) (fun c2 => ?_) (fun c2 => ?_)
  · replace h := (if_neg c2).symm.trans h
    refine lv_aload_n hx hb dX4_select_12 rfl (lv_at hl 0 rfl) ?_
    refine va_get (D := G) (ci := 4) (v := .ref (aE 0)) (C := RX4) (T := TX4) (N := 4) hx hb hts uX4 hown hK hP 13 rfl rfl 2 (by decide) (hts _ kw167) (fun _ h9 => h9) rfl dX4_select_13 ?_
    refine lv_aload_n hx hb dX4_select_16 rfl (lv_at hl 0 rfl) ?_
    refine va_get (D := G) (ci := 4) (v := .ref (aS 0)) (C := RX4) (T := TX4) (N := 4) hx hb hts uX4 hown hK hP 13 rfl rfl 0 (by decide) (hts _ kw165) (fun _ h9 => h9) rfl dX4_select_17 ?_
    refine lv_iload_n hx hb dX4_select_20 rfl (lv_at hl 1 rfl) ?_
    refine lv_iload_n hx hb dX4_select_21 rfl (lv_at hl 2 rfl) ?_
    refine lv_iload_n hx hb dX4_select_22 rfl (lv_at hl 3 rfl) ?_
    obtain ⟨q3, hq3, h⟩ := bd_s h
    refine kVv (n := 4) (C := RX1) (ws' := wE cI cJ cA aE aR q3.1 q3.2.1 q3.2.2.1 q3.2.2.2.1 q3.2.2.2.2.1 q3.2.2.2.2.2.1 q3.2.2.2.2.2.2.1 q3.2.2.2.2.2.2.2 ++ (wT aT (aS 0) (aH 0) (aE 0) (aX 0) ++ (wS cI cJ aS pr pu ta se qu im su tc sc rc cn so ++ ([] : va_W)))) (As := [.ref (aS 0), .int p0, .int p1, .int p2]) (rest := []) hx hb hml hown hts (c_X1_find l G cI cJ cZ cO cA e aE aR aS _ un tp sh de co ma ru fo pr pu ta se qu im su tc sc rc cn so p0 p1 p2 hq3) (tb_V kw300 kw301 kw302 kw5 kw303) rfl rfl (by decide +kernel) ⟨Nat.le_of_ble_eq_true rfl, Nat.le_of_ble_eq_true rfl⟩ hK hP hD hS hA hE 0 rfl rfl [0, 1, 2, 3, 4, 5, 6, 7, 8, 9, 10, 11, 12, 14, 15, 16, 17, 18, 19, 20, 21] [13] rfl rfl rfl 22 ⟨rfl, rfl⟩ (by decide +kernel) (by decide +kernel) rfl rfl hl.1 (Nat.le_of_ble_eq_true rfl) ⟨Nat.zero_le _, Nat.zero_le _⟩ dX4_select_23 (fun H locs hP hD hS => ?_)
    refine lv_aload_n hx hb dX4_select_26 rfl (lv_at hl 0 rfl) ?_
    refine va_get (D := G) (ci := 4) (v := .ref (aE 0)) (C := RX4) (T := TX4) (N := 4) hx hb hts uX4 hown hK hP 13 rfl rfl 2 (by decide) (hts _ kw167) (fun _ h9 => h9) rfl dX4_select_27 ?_
    refine va_getN (D := G) (ci := 1) (v := .int q3.2.2.2.2.2.2.2) (C := RX1) (T := TX1) (N := 8) hx hb hts uX1 hown hK hP 0 rfl rfl 7 (by decide) (hE.nw nk114) (fun _ h9 => h9) rfl dX4_select_30 ?_
    refine lv_if_eq (tgt := 46) hx hb dX4_select_33 (by decide) (fun c4 => ?_) (fun c4 => ?_)
    · replace h := (if_pos c4).symm.trans h
      refine lv_ldc (v := (-2000000000)) hx hb hown (hts _ kw333) dX4_select_46 ?_
      rw [← Option.some.inj h]
      exact kri hx hb hr hlk rfl rfl hP hD hS hK dX4_select_48
    · replace h := (if_neg c4).symm.trans h
      refine lv_aload_n hx hb dX4_select_36 rfl (lv_at hl 0 rfl) ?_
      refine va_get (D := G) (ci := 4) (v := .ref (aE 0)) (C := RX4) (T := TX4) (N := 4) hx hb hts uX4 hown hK hP 13 rfl rfl 2 (by decide) (hts _ kw167) (fun _ h9 => h9) rfl dX4_select_37 ?_
      refine va_getN (D := G) (ci := 1) (v := .int q3.2.2.2.2.2.1) (C := RX1) (T := TX1) (N := 8) hx hb hts uX1 hown hK hP 0 rfl rfl 5 (by decide) (hE.nw nk111) (fun _ h9 => h9) rfl dX4_select_40 ?_
      refine lv_goto (tgt := 48) hx hb dX4_select_43 (by decide) ?_
      rw [← Option.some.inj h]
      exact kri hx hb hr hlk rfl rfl hP hD hS hK dX4_select_48
  · replace h := (if_pos c2).symm.trans h
    refine lv_ldc (v := (-2000000002)) hx hb hown (hts _ kw192) dX4_select_9 ?_
    rw [← Option.some.inj h]
    exact kri hx hb hr hlk rfl rfl hP hD hS hK dX4_select_11

/-! X1_pulseOf -/
def f_X1_pulseOf (sh : Nat → Int64) (de : Int64) (p0 : Int32) (p1 : Int32) : Option (Int32) :=
  gd (ib p0 8) (if (lg_cmp (sh p0.toNatClampNeg) 0) ≤ 0 then (some 0) else (if 0 < (lg_cmp de 0) then (gd (nzl (2 * de)) (if ((((2 * (sh p0.toNatClampNeg)) + de) / (2 * de)).toInt32) < p1 then (if (lg_cmp (2 * (sh p0.toNatClampNeg)) (p1.toInt64 * de)) < 0 then (some 0) else (some p1)) else (some ((((2 * (sh p0.toNatClampNeg)) + de) / (2 * de)).toInt32)))) else (some 0)))

set_option maxHeartbeats 4000000 in
set_option maxRecDepth 100000 in
theorem c_X1_pulseOf (l : Launch) (G : va_G) (cI cJ cZ cO cA : ClassId) (e : Nat × Nat) (aE : Nat → Nat) (aR : Nat → Nat) (sz : Nat) (un : Nat → Nat → Int32) (tp : Nat → Int32) (sh : Nat → Int64) (de : Int64) (co : Int64) (ma : Int32) (ru : Int32) (fo : Int32) (p0 : Int32) (p1 : Int32) {res : Int32} (hf : f_X1_pulseOf sh de p0 p1 = some res) : MetI l yX1_pulseOf cX1_pulseOf 6 .int ({ frames := 0, cells := 0, slots := 0, locals := 0 } : Room) [.ref (aE 0), .int p0, .int p1] G (ty5 cI cJ cZ cO cA) e (wE cI cJ cA aE aR un tp sh de co ma ru fo ++ ([] : va_W)) (wE cI cJ cA aE aR un tp sh de co ma ru fo ++ ([] : va_W)) sz res := by
  refine g_body (QQ := fun A => (qI G (ty5 cI cJ cZ cO cA) A (wE cI cJ cA aE aR un tp sh de co ma ru fo ++ ([] : va_W)) res)) (own := RX1) (by decide) rfl (Nat.le_of_ble_eq_true rfl) ?_
  intro p ev s m below meth c A ls hx hb hr hml hown hts hlk hA hP hD hS hK hE hl
  have hl : lv_has ls 6 [(0, .ref (aE 0)), (1, .int p0), (2, .int p1)] := hl
  show W p l ev ({ frames := 0, cells := 0, slots := 0, locals := 0 } : Room) s m ([.ref (aE 0), .int p0, .int p1] : List Value).toArray below meth c s.heap [] 0 0 (MQ below (qI G (ty5 cI cJ cZ cO cA) A (wE cI cJ cA aE aR un tp sh de co ma ru fo ++ ([] : va_W)) res) ([.ref (aE 0), .int p0, .int p1] : List Value).toArray s 0 0 A) (F0 m 0 ls [])
  have h := hf
  unfold f_X1_pulseOf at h
  refine lv_aload_n hx hb dX1_pulseOf_0 rfl (lv_at hl 0 rfl) ?_
  refine va_get (D := G) (ci := 1) (v := .ref (aE 3)) (C := RX1) (T := TX1) (N := 8) hx hb hts uX1 hown hK hP 0 rfl rfl 2 (by decide) (hts _ kw107) (fun _ h9 => h9) rfl dX1_pulseOf_1 ?_
  refine lv_iload_n hx hb dX1_pulseOf_4 rfl (lv_at hl 1 rfl) ?_
  obtain ⟨g1, h⟩ := gd_s h
  refine va_lald hx hb hK hP 3 1 rfl rfl (ib_in g1) dX1_pulseOf_5 ?_
  refine lv_lstore_n (lv' := [(3, .long (sh p0.toNatClampNeg)), (0, .ref (aE 0)), (1, .int p0), (2, .int p1)]) hx hb dX1_pulseOf_6 rfl hl (by decide) rfl (fun ls hl => ?_)
  refine lv_lload_n hx hb dX1_pulseOf_7 rfl (lv_at hl 0 rfl) ?_
  refine lv_lconst (v := 0) hx hb dX1_pulseOf_8 (by decide) ?_
  refine W.lcmp hx hb dX1_pulseOf_9 ?_
  refine lv_if_le (tgt := 22) hx hb dX1_pulseOf_10 (by decide) (fun c2 => ?_) (fun c2 => ?_)
  · replace h := (if_pos c2).symm.trans h
    refine lv_iconst (v := 0) hx hb dX1_pulseOf_22 (by decide) ?_
    rw [← Option.some.inj h]
    exact kri hx hb hr hlk rfl rfl hP hD hS hK dX1_pulseOf_23
  · replace h := (if_neg c2).symm.trans h
    refine lv_aload_n hx hb dX1_pulseOf_13 rfl (lv_at hl 1 rfl) ?_
    refine va_get (D := G) (ci := 1) (v := .long de) (C := RX1) (T := TX1) (N := 8) hx hb hts uX1 hown hK hP 0 rfl rfl 3 (by decide) (hts _ kw108) (fun _ h9 => h9) rfl dX1_pulseOf_14 ?_
    refine lv_lconst (v := 0) hx hb dX1_pulseOf_17 (by decide) ?_
    refine W.lcmp hx hb dX1_pulseOf_18 ?_
    refine lv_if_gt (tgt := 24) hx hb dX1_pulseOf_19 (by decide) (fun c3 => ?_) (fun c3 => ?_)
    · replace h := (if_pos c3).symm.trans h
      refine lv_ldc2 (v := 2) hx hb hown (hts _ kw343) dX1_pulseOf_24 ?_
      refine lv_lload_n hx hb dX1_pulseOf_27 rfl (lv_at hl 0 rfl) ?_
      refine lv_lmul hx hb dX1_pulseOf_28 ?_
      refine lv_aload_n hx hb dX1_pulseOf_29 rfl (lv_at hl 1 rfl) ?_
      refine va_get (D := G) (ci := 1) (v := .long de) (C := RX1) (T := TX1) (N := 8) hx hb hts uX1 hown hK hP 0 rfl rfl 3 (by decide) (hts _ kw108) (fun _ h9 => h9) rfl dX1_pulseOf_30 ?_
      refine lv_ladd hx hb dX1_pulseOf_33 ?_
      refine lv_ldc2 (v := 2) hx hb hown (hts _ kw343) dX1_pulseOf_34 ?_
      refine lv_aload_n hx hb dX1_pulseOf_37 rfl (lv_at hl 1 rfl) ?_
      refine va_get (D := G) (ci := 1) (v := .long de) (C := RX1) (T := TX1) (N := 8) hx hb hts uX1 hown hK hP 0 rfl rfl 3 (by decide) (hts _ kw108) (fun _ h9 => h9) rfl dX1_pulseOf_38 ?_
      refine lv_lmul hx hb dX1_pulseOf_41 ?_
      obtain ⟨g4, h⟩ := gd_s h
      refine lv_ldiv hx hb dX1_pulseOf_42 (nzl_s g4) ?_
      refine lv_l2i (v := (((2 * (sh p0.toNatClampNeg)) + de) / (2 * de)).toInt32) hx hb dX1_pulseOf_43 rfl ?_
      refine lv_istore (lv' := [(5, .int ((((2 * (sh p0.toNatClampNeg)) + de) / (2 * de)).toInt32)), (3, .long (sh p0.toNatClampNeg)), (0, .ref (aE 0)), (1, .int p0), (2, .int p1)]) hx hb dX1_pulseOf_44 hl (by decide) rfl (fun ls hl => ?_)
      refine lv_iload hx hb dX1_pulseOf_46 (lv_at hl 0 rfl) ?_
      refine lv_iload_n hx hb dX1_pulseOf_48 rfl (lv_at hl 4 rfl) ?_
      refine lv_icmp_lt (tgt := 55) hx hb dX1_pulseOf_49 (by decide) (fun c5 => ?_) (fun c5 => ?_)
      · replace h := (if_pos c5).symm.trans h
        refine lv_ldc2 (v := 2) hx hb hown (hts _ kw343) dX1_pulseOf_55 ?_
        refine lv_lload_n hx hb dX1_pulseOf_58 rfl (lv_at hl 1 rfl) ?_
        refine lv_lmul hx hb dX1_pulseOf_59 ?_
        refine lv_iload_n hx hb dX1_pulseOf_60 rfl (lv_at hl 4 rfl) ?_
        refine lv_i2l (v := p1.toInt64) hx hb dX1_pulseOf_61 rfl ?_
        refine lv_aload_n hx hb dX1_pulseOf_62 rfl (lv_at hl 2 rfl) ?_
        refine va_get (D := G) (ci := 1) (v := .long de) (C := RX1) (T := TX1) (N := 8) hx hb hts uX1 hown hK hP 0 rfl rfl 3 (by decide) (hts _ kw108) (fun _ h9 => h9) rfl dX1_pulseOf_63 ?_
        refine lv_lmul hx hb dX1_pulseOf_66 ?_
        refine W.lcmp hx hb dX1_pulseOf_67 ?_
        refine lv_if_lt (tgt := 75) hx hb dX1_pulseOf_68 (by decide) (fun c6 => ?_) (fun c6 => ?_)
        · replace h := (if_pos c6).symm.trans h
          refine lv_iconst (v := 0) hx hb dX1_pulseOf_75 (by decide) ?_
          rw [← Option.some.inj h]
          exact kri hx hb hr hlk rfl rfl hP hD hS hK dX1_pulseOf_76
        · replace h := (if_neg c6).symm.trans h
          refine lv_iload_n hx hb dX1_pulseOf_71 rfl (lv_at hl 4 rfl) ?_
          refine lv_goto (tgt := 76) hx hb dX1_pulseOf_72 (by decide) ?_
          rw [← Option.some.inj h]
          exact kri hx hb hr hlk rfl rfl hP hD hS hK dX1_pulseOf_76
      · replace h := (if_neg c5).symm.trans h
        refine lv_iload hx hb dX1_pulseOf_52 (lv_at hl 0 rfl) ?_
        rw [← Option.some.inj h]
        exact kri hx hb hr hlk rfl rfl hP hD hS hK dX1_pulseOf_54
    · replace h := (if_neg c3).symm.trans h
      refine lv_iconst (v := 0) hx hb dX1_pulseOf_22 (by decide) ?_
      rw [← Option.some.inj h]
      exact kri hx hb hr hlk rfl rfl hP hD hS hK dX1_pulseOf_23

/-! X4_pulse -/
def f_X4_pulse (pr : Nat → Int32) (ta : Nat → Int32) (se : Nat → Int32) (tc : Int32) (sc : Int32) (un : Nat → Nat → Int32) (tp : Nat → Int32) (sh : Nat → Int64) (de : Int64) (co : Int64) (ma : Int32) (ru : Int32) (fo : Int32) (p0 : Int32) (p1 : Int32) (p2 : Int32) (p3 : Int32) : Option (Int32 × (Nat → Nat → Int32) × (Nat → Int32) × (Nat → Int64) × Int64 × Int64 × Int32 × Int32 × Int32) :=
  (f_X4_isThruster tc p3).bind (fun q1 => if q1 = 0 then (some ((-2000000001), un, tp, sh, de, co, ma, ru, fo)) else ((f_X4_isTarget p0 p1 p2).bind (fun q3 => if q3 = 0 then (some ((-2000000002), un, tp, sh, de, co, ma, ru, fo)) else ((f_X1_find pr ta se tc sc un tp sh de co ma ru fo p0 p1 p2).bind (fun q5 => if q5.2.2.2.2.2.2.2 = 0 then (some ((-2000000000), q5.1, q5.2.1, q5.2.2.1, q5.2.2.2.1, q5.2.2.2.2.1, q5.2.2.2.2.2.1, q5.2.2.2.2.2.2.1, q5.2.2.2.2.2.2.2)) else ((f_X2_property pr p3 5).bind (fun q7 => (f_X1_pulseOf q5.2.2.1 q5.2.2.2.1 p3 q7).bind (fun q8 => some (q8, q5.1, q5.2.1, q5.2.2.1, q5.2.2.2.1, q5.2.2.2.2.1, q5.2.2.2.2.2.1, q5.2.2.2.2.2.2.1, q5.2.2.2.2.2.2.2)))))))))

set_option maxHeartbeats 4000000 in
set_option maxRecDepth 100000 in
theorem c_X4_pulse (l : Launch) (G : va_G) (cI cJ cZ cO cA : ClassId) (e : Nat × Nat) (aE : Nat → Nat) (aR : Nat → Nat) (aT : Nat) (aS : Nat → Nat) (aH : Nat → Nat) (aX : Nat → Nat) (sz : Nat) (un : Nat → Nat → Int32) (tp : Nat → Int32) (sh : Nat → Int64) (de : Int64) (co : Int64) (ma : Int32) (ru : Int32) (fo : Int32) (pr : Nat → Int32) (pu : Nat → Int32) (ta : Nat → Int32) (se : Nat → Int32) (qu : Nat → Int32) (im : Nat → Int32) (su : Nat → Int64) (tc : Int32) (sc : Int32) (rc : Int32) (cn : Int32) (so : Int32) (p0 : Int32) (p1 : Int32) (p2 : Int32) (p3 : Int32) {res : Int32 × (Nat → Nat → Int32) × (Nat → Int32) × (Nat → Int64) × Int64 × Int64 × Int32 × Int32 × Int32} (hf : f_X4_pulse pr ta se tc sc un tp sh de co ma ru fo p0 p1 p2 p3 = some res) : MetI l yX4_pulse cX4_pulse 5 .int ({ frames := 6, cells := 0, slots := 0, locals := 136 } : Room) [.ref aT, .int p0, .int p1, .int p2, .int p3] G (ty5 cI cJ cZ cO cA) e (wE cI cJ cA aE aR un tp sh de co ma ru fo ++ (wT aT (aS 0) (aH 0) (aE 0) (aX 0) ++ (wS cI cJ aS pr pu ta se qu im su tc sc rc cn so ++ ([] : va_W)))) (wE cI cJ cA aE aR res.2.1 res.2.2.1 res.2.2.2.1 res.2.2.2.2.1 res.2.2.2.2.2.1 res.2.2.2.2.2.2.1 res.2.2.2.2.2.2.2.1 res.2.2.2.2.2.2.2.2 ++ (wT aT (aS 0) (aH 0) (aE 0) (aX 0) ++ (wS cI cJ aS pr pu ta se qu im su tc sc rc cn so ++ ([] : va_W)))) sz res.1 := by
  refine g_body (QQ := fun A => (qI G (ty5 cI cJ cZ cO cA) A (wE cI cJ cA aE aR res.2.1 res.2.2.1 res.2.2.2.1 res.2.2.2.2.1 res.2.2.2.2.2.1 res.2.2.2.2.2.2.1 res.2.2.2.2.2.2.2.1 res.2.2.2.2.2.2.2.2 ++ (wT aT (aS 0) (aH 0) (aE 0) (aX 0) ++ (wS cI cJ aS pr pu ta se qu im su tc sc rc cn so ++ ([] : va_W)))) res.1)) (own := RX4) (by decide) rfl (Nat.le_of_ble_eq_true rfl) ?_
  intro p ev s m below meth c A ls hx hb hr hml hown hts hlk hA hP hD hS hK hE hl
  have hl : lv_has ls 5 [(0, .ref aT), (1, .int p0), (2, .int p1), (3, .int p2), (4, .int p3)] := hl
  show W p l ev ({ frames := 6, cells := 0, slots := 0, locals := 136 } : Room) s m ([.ref aT, .int p0, .int p1, .int p2, .int p3] : List Value).toArray below meth c s.heap [] 0 0 (MQ below (qI G (ty5 cI cJ cZ cO cA) A (wE cI cJ cA aE aR res.2.1 res.2.2.1 res.2.2.2.1 res.2.2.2.2.1 res.2.2.2.2.2.1 res.2.2.2.2.2.2.1 res.2.2.2.2.2.2.2.1 res.2.2.2.2.2.2.2.2 ++ (wT aT (aS 0) (aH 0) (aE 0) (aX 0) ++ (wS cI cJ aS pr pu ta se qu im su tc sc rc cn so ++ ([] : va_W)))) res.1) ([.ref aT, .int p0, .int p1, .int p2, .int p3] : List Value).toArray s 0 0 A) (F0 m 0 ls [])
  have h := hf
  unfold f_X4_pulse at h
  refine lv_aload_n hx hb dX4_pulse_0 rfl (lv_at hl 0 rfl) ?_
  refine lv_iload hx hb dX4_pulse_1 (lv_at hl 4 rfl) ?_
  obtain ⟨q1, hq1, h⟩ := bd_s h
  refine kVi (n := 1) (C := RX4) (ws' := wE cI cJ cA aE aR un tp sh de co ma ru fo ++ (wT aT (aS 0) (aH 0) (aE 0) (aX 0) ++ (wS cI cJ aS pr pu ta se qu im su tc sc rc cn so ++ ([] : va_W)))) (As := [.int p3]) (rest := []) hx hb hml hown hts (c_X4_isThruster l G cI cJ cZ cO cA e aT aS aH aE aX _ pr pu ta se qu im su tc sc rc cn so p3 hq1) (tb_V kw221 kw223 kv0 kw1 kw224) rfl rfl (by decide +kernel) ⟨Nat.le_of_ble_eq_true rfl, Nat.le_of_ble_eq_true rfl⟩ hK hP hD hS hA hE 13 rfl rfl [13, 14, 15, 16, 17, 18, 19, 20, 21] [0, 1, 2, 3, 4, 5, 6, 7, 8, 9, 10, 11, 12] rfl rfl rfl 22 ⟨rfl, rfl⟩ (by decide +kernel) (by decide +kernel) rfl rfl hl.1 (Nat.le_of_ble_eq_true rfl) ⟨Nat.zero_le _, Nat.zero_le _⟩ dX4_pulse_3 (fun H locs hP hD hS => ?_)
  refine lv_if_ne (tgt := 12) hx hb dX4_pulse_6 (by decide) (fun c2 => ?_) (fun c2 => ?_)
  · replace h := (if_neg c2).symm.trans h
    refine lv_iload_n hx hb dX4_pulse_12 rfl (lv_at hl 1 rfl) ?_
    refine lv_iload_n hx hb dX4_pulse_13 rfl (lv_at hl 2 rfl) ?_
    refine lv_iload_n hx hb dX4_pulse_14 rfl (lv_at hl 3 rfl) ?_
    obtain ⟨q3, hq3, h⟩ := bd_s h
    refine kSi (n := 3) (As := [.int p0, .int p1, .int p2]) (rest := []) hx hb hml hown hts (c_X4_isTarget l G cI cJ cZ cO cA e _ p0 p1 p2 hq3) (tb_S kw293 kw294 kw1 kw295) rfl rfl (by decide +kernel) ⟨Nat.le_of_ble_eq_true rfl, Nat.le_of_ble_eq_true rfl⟩ hK hP hD hS hA hE rfl rfl hl.1 (Nat.le_of_ble_eq_true rfl) ⟨Nat.zero_le _, Nat.zero_le _⟩ dX4_pulse_15 (fun H locs hP hD hS => ?_)
    refine lv_if_ne (tgt := 24) hx hb dX4_pulse_18 (by decide) (fun c4 => ?_) (fun c4 => ?_)
    · replace h := (if_neg c4).symm.trans h
      refine lv_aload_n hx hb dX4_pulse_24 rfl (lv_at hl 0 rfl) ?_
      refine va_get (D := G) (ci := 4) (v := .ref (aE 0)) (C := RX4) (T := TX4) (N := 4) hx hb hts uX4 hown hK hP 13 rfl rfl 2 (by decide) (hts _ kw167) (fun _ h9 => h9) rfl dX4_pulse_25 ?_
      refine lv_aload_n hx hb dX4_pulse_28 rfl (lv_at hl 0 rfl) ?_
      refine va_get (D := G) (ci := 4) (v := .ref (aS 0)) (C := RX4) (T := TX4) (N := 4) hx hb hts uX4 hown hK hP 13 rfl rfl 0 (by decide) (hts _ kw165) (fun _ h9 => h9) rfl dX4_pulse_29 ?_
      refine lv_iload_n hx hb dX4_pulse_32 rfl (lv_at hl 1 rfl) ?_
      refine lv_iload_n hx hb dX4_pulse_33 rfl (lv_at hl 2 rfl) ?_
      refine lv_iload_n hx hb dX4_pulse_34 rfl (lv_at hl 3 rfl) ?_
      obtain ⟨q5, hq5, h⟩ := bd_s h
      refine kVv (n := 4) (C := RX1) (ws' := wE cI cJ cA aE aR q5.1 q5.2.1 q5.2.2.1 q5.2.2.2.1 q5.2.2.2.2.1 q5.2.2.2.2.2.1 q5.2.2.2.2.2.2.1 q5.2.2.2.2.2.2.2 ++ (wT aT (aS 0) (aH 0) (aE 0) (aX 0) ++ (wS cI cJ aS pr pu ta se qu im su tc sc rc cn so ++ ([] : va_W)))) (As := [.ref (aS 0), .int p0, .int p1, .int p2]) (rest := []) hx hb hml hown hts (c_X1_find l G cI cJ cZ cO cA e aE aR aS _ un tp sh de co ma ru fo pr pu ta se qu im su tc sc rc cn so p0 p1 p2 hq5) (tb_V kw300 kw301 kw302 kw5 kw303) rfl rfl (by decide +kernel) ⟨Nat.le_of_ble_eq_true rfl, Nat.le_of_ble_eq_true rfl⟩ hK hP hD hS hA hE 0 rfl rfl [0, 1, 2, 3, 4, 5, 6, 7, 8, 9, 10, 11, 12, 14, 15, 16, 17, 18, 19, 20, 21] [13] rfl rfl rfl 22 ⟨rfl, rfl⟩ (by decide +kernel) (by decide +kernel) rfl rfl hl.1 (Nat.le_of_ble_eq_true rfl) ⟨Nat.zero_le _, Nat.zero_le _⟩ dX4_pulse_35 (fun H locs hP hD hS => ?_)
      refine lv_aload_n hx hb dX4_pulse_38 rfl (lv_at hl 0 rfl) ?_
      refine va_get (D := G) (ci := 4) (v := .ref (aE 0)) (C := RX4) (T := TX4) (N := 4) hx hb hts uX4 hown hK hP 13 rfl rfl 2 (by decide) (hts _ kw167) (fun _ h9 => h9) rfl dX4_pulse_39 ?_
      refine va_getN (D := G) (ci := 1) (v := .int q5.2.2.2.2.2.2.2) (C := RX1) (T := TX1) (N := 8) hx hb hts uX1 hown hK hP 0 rfl rfl 7 (by decide) (hE.nw nk114) (fun _ h9 => h9) rfl dX4_pulse_42 ?_
      refine lv_if_eq (tgt := 70) hx hb dX4_pulse_45 (by decide) (fun c6 => ?_) (fun c6 => ?_)
      · replace h := (if_pos c6).symm.trans h
        refine lv_ldc (v := (-2000000000)) hx hb hown (hts _ kw333) dX4_pulse_70 ?_
        rw [← Option.some.inj h]
        exact kri hx hb hr hlk rfl rfl hP hD hS hK dX4_pulse_72
      · replace h := (if_neg c6).symm.trans h
        refine lv_aload_n hx hb dX4_pulse_48 rfl (lv_at hl 0 rfl) ?_
        refine va_get (D := G) (ci := 4) (v := .ref (aE 0)) (C := RX4) (T := TX4) (N := 4) hx hb hts uX4 hown hK hP 13 rfl rfl 2 (by decide) (hts _ kw167) (fun _ h9 => h9) rfl dX4_pulse_49 ?_
        refine lv_iload hx hb dX4_pulse_52 (lv_at hl 4 rfl) ?_
        refine lv_aload_n hx hb dX4_pulse_54 rfl (lv_at hl 0 rfl) ?_
        refine va_get (D := G) (ci := 4) (v := .ref (aS 0)) (C := RX4) (T := TX4) (N := 4) hx hb hts uX4 hown hK hP 13 rfl rfl 0 (by decide) (hts _ kw165) (fun _ h9 => h9) rfl dX4_pulse_55 ?_
        refine lv_iload hx hb dX4_pulse_58 (lv_at hl 4 rfl) ?_
        refine lv_iconst (v := 5) hx hb dX4_pulse_60 (by decide) ?_
        obtain ⟨q7, hq7, h⟩ := bd_s h
        refine kVi (n := 2) (C := RX2) (ws' := wE cI cJ cA aE aR q5.1 q5.2.1 q5.2.2.1 q5.2.2.2.1 q5.2.2.2.2.1 q5.2.2.2.2.2.1 q5.2.2.2.2.2.2.1 q5.2.2.2.2.2.2.2 ++ (wT aT (aS 0) (aH 0) (aE 0) (aX 0) ++ (wS cI cJ aS pr pu ta se qu im su tc sc rc cn so ++ ([] : va_W)))) (As := [.int p3, .int 5]) (rest := [.int p3, .ref (aE 0)]) hx hb hml hown hts (c_X2_property l G cI cJ cZ cO cA e aS _ pr pu ta se qu im su tc sc rc cn so p3 5 hq7) (tb_V kw338 kw238 kw239 kw2 kw240) rfl rfl (by decide +kernel) ⟨Nat.le_of_ble_eq_true rfl, Nat.le_of_ble_eq_true rfl⟩ hK hP hD hS hA hE 14 rfl rfl [14, 15, 16, 17, 18, 19, 20, 21] [0, 1, 2, 3, 4, 5, 6, 7, 8, 9, 10, 11, 12, 13] rfl rfl rfl 22 ⟨rfl, rfl⟩ (by decide +kernel) (by decide +kernel) rfl rfl hl.1 (Nat.le_of_ble_eq_true rfl) ⟨Nat.zero_le _, Nat.zero_le _⟩ dX4_pulse_61 (fun H locs hP hD hS => ?_)
        obtain ⟨q8, hq8, h⟩ := bd_s h
        refine kVi (n := 2) (C := RX1) (ws' := wE cI cJ cA aE aR q5.1 q5.2.1 q5.2.2.1 q5.2.2.2.1 q5.2.2.2.2.1 q5.2.2.2.2.2.1 q5.2.2.2.2.2.2.1 q5.2.2.2.2.2.2.2 ++ (wT aT (aS 0) (aH 0) (aE 0) (aX 0) ++ (wS cI cJ aS pr pu ta se qu im su tc sc rc cn so ++ ([] : va_W)))) (As := [.int p3, .int q7]) (rest := []) hx hb hml hown hts (c_X1_pulseOf l G cI cJ cZ cO cA e aE aR _ q5.1 q5.2.1 q5.2.2.1 q5.2.2.2.1 q5.2.2.2.2.1 q5.2.2.2.2.2.1 q5.2.2.2.2.2.2.1 q5.2.2.2.2.2.2.2 p3 q7 hq8) (tb_V kw339 kw340 kw341 kw5 kw342) rfl rfl (by decide +kernel) ⟨Nat.le_of_ble_eq_true rfl, Nat.le_of_ble_eq_true rfl⟩ hK hP hD hS hA hE 0 rfl rfl [0, 1, 2, 3, 4, 5, 6, 7, 8, 9, 10, 11, 12] [13, 14, 15, 16, 17, 18, 19, 20, 21] rfl rfl rfl 22 ⟨rfl, rfl⟩ (by decide +kernel) (by decide +kernel) rfl rfl hl.1 (Nat.le_of_ble_eq_true rfl) ⟨Nat.zero_le _, Nat.zero_le _⟩ dX4_pulse_64 (fun H locs hP hD hS => ?_)
        refine lv_goto (tgt := 72) hx hb dX4_pulse_67 (by decide) ?_
        rw [← Option.some.inj h]
        exact kri hx hb hr hlk rfl rfl hP hD hS hK dX4_pulse_72
    · replace h := (if_pos c4).symm.trans h
      refine lv_ldc (v := (-2000000002)) hx hb hown (hts _ kw192) dX4_pulse_21 ?_
      rw [← Option.some.inj h]
      exact kri hx hb hr hlk rfl rfl hP hD hS hK dX4_pulse_23
  · replace h := (if_pos c2).symm.trans h
    refine lv_ldc (v := (-2000000001)) hx hb hown (hts _ kw188) dX4_pulse_9 ?_
    rw [← Option.some.inj h]
    exact kri hx hb hr hlk rfl rfl hP hD hS hK dX4_pulse_11

/-! X1_thousandths -/
def f_X1_thousandths (de : Int64) (co : Int64) : Option (Int32) :=
  if (lg_cmp de 0) ≤ 0 then (some 0) else (gd (nzl de) (some (((1000 * co) / de).toInt32)))

set_option maxHeartbeats 4000000 in
set_option maxRecDepth 100000 in
theorem c_X1_thousandths (l : Launch) (G : va_G) (cI cJ cZ cO cA : ClassId) (e : Nat × Nat) (aE : Nat → Nat) (aR : Nat → Nat) (sz : Nat) (un : Nat → Nat → Int32) (tp : Nat → Int32) (sh : Nat → Int64) (de : Int64) (co : Int64) (ma : Int32) (ru : Int32) (fo : Int32) {res : Int32} (hf : f_X1_thousandths de co = some res) : MetI l yX1_thousandths cX1_thousandths 1 .int ({ frames := 0, cells := 0, slots := 0, locals := 0 } : Room) [.ref (aE 0)] G (ty5 cI cJ cZ cO cA) e (wE cI cJ cA aE aR un tp sh de co ma ru fo ++ ([] : va_W)) (wE cI cJ cA aE aR un tp sh de co ma ru fo ++ ([] : va_W)) sz res := by
  refine g_body (QQ := fun A => (qI G (ty5 cI cJ cZ cO cA) A (wE cI cJ cA aE aR un tp sh de co ma ru fo ++ ([] : va_W)) res)) (own := RX1) (by decide) rfl (Nat.le_of_ble_eq_true rfl) ?_
  intro p ev s m below meth c A ls hx hb hr hml hown hts hlk hA hP hD hS hK hE hl
  have hl : lv_has ls 1 [(0, .ref (aE 0))] := hl
  show W p l ev ({ frames := 0, cells := 0, slots := 0, locals := 0 } : Room) s m ([.ref (aE 0)] : List Value).toArray below meth c s.heap [] 0 0 (MQ below (qI G (ty5 cI cJ cZ cO cA) A (wE cI cJ cA aE aR un tp sh de co ma ru fo ++ ([] : va_W)) res) ([.ref (aE 0)] : List Value).toArray s 0 0 A) (F0 m 0 ls [])
  have h := hf
  unfold f_X1_thousandths at h
  refine lv_aload_n hx hb dX1_thousandths_0 rfl (lv_at hl 0 rfl) ?_
  refine va_get (D := G) (ci := 1) (v := .long de) (C := RX1) (T := TX1) (N := 8) hx hb hts uX1 hown hK hP 0 rfl rfl 3 (by decide) (hts _ kw108) (fun _ h9 => h9) rfl dX1_thousandths_1 ?_
  refine lv_lconst (v := 0) hx hb dX1_thousandths_4 (by decide) ?_
  refine W.lcmp hx hb dX1_thousandths_5 ?_
  refine lv_if_le (tgt := 26) hx hb dX1_thousandths_6 (by decide) (fun c1 => ?_) (fun c1 => ?_)
  · replace h := (if_pos c1).symm.trans h
    refine lv_iconst (v := 0) hx hb dX1_thousandths_26 (by decide) ?_
    rw [← Option.some.inj h]
    exact kri hx hb hr hlk rfl rfl hP hD hS hK dX1_thousandths_27
  · replace h := (if_neg c1).symm.trans h
    refine lv_ldc2 (v := 1000) hx hb hown (hts _ kw488) dX1_thousandths_9 ?_
    refine lv_aload_n hx hb dX1_thousandths_12 rfl (lv_at hl 0 rfl) ?_
    refine va_get (D := G) (ci := 1) (v := .long co) (C := RX1) (T := TX1) (N := 8) hx hb hts uX1 hown hK hP 0 rfl rfl 4 (by decide) (hts _ kw109) (fun _ h9 => h9) rfl dX1_thousandths_13 ?_
    refine lv_lmul hx hb dX1_thousandths_16 ?_
    refine lv_aload_n hx hb dX1_thousandths_17 rfl (lv_at hl 0 rfl) ?_
    refine va_get (D := G) (ci := 1) (v := .long de) (C := RX1) (T := TX1) (N := 8) hx hb hts uX1 hown hK hP 0 rfl rfl 3 (by decide) (hts _ kw108) (fun _ h9 => h9) rfl dX1_thousandths_18 ?_
    obtain ⟨g2, h⟩ := gd_s h
    refine lv_ldiv hx hb dX1_thousandths_21 (nzl_s g2) ?_
    refine lv_l2i (v := ((1000 * co) / de).toInt32) hx hb dX1_thousandths_22 rfl ?_
    refine lv_goto (tgt := 27) hx hb dX1_thousandths_23 (by decide) ?_
    rw [← Option.some.inj h]
    exact kri hx hb hr hlk rfl rfl hP hD hS hK dX1_thousandths_27

/-! X4_price -/
def f_X4_price (pr : Nat → Int32) (ta : Nat → Int32) (se : Nat → Int32) (tc : Int32) (sc : Int32) (un : Nat → Nat → Int32) (tp : Nat → Int32) (sh : Nat → Int64) (de : Int64) (co : Int64) (ma : Int32) (ru : Int32) (fo : Int32) (p0 : Int32) (p1 : Int32) (p2 : Int32) : Option (Int32 × (Nat → Nat → Int32) × (Nat → Int32) × (Nat → Int64) × Int64 × Int64 × Int32 × Int32 × Int32) :=
  (f_X4_isTarget p0 p1 p2).bind (fun q1 => if q1 = 0 then (some ((-2000000002), un, tp, sh, de, co, ma, ru, fo)) else ((f_X1_find pr ta se tc sc un tp sh de co ma ru fo p0 p1 p2).bind (fun q3 => if q3.2.2.2.2.2.2.2 = 0 then (some ((-2000000000), q3.1, q3.2.1, q3.2.2.1, q3.2.2.2.1, q3.2.2.2.2.1, q3.2.2.2.2.2.1, q3.2.2.2.2.2.2.1, q3.2.2.2.2.2.2.2)) else ((f_X1_thousandths q3.2.2.2.1 q3.2.2.2.2.1).bind (fun q5 => some (q5, q3.1, q3.2.1, q3.2.2.1, q3.2.2.2.1, q3.2.2.2.2.1, q3.2.2.2.2.2.1, q3.2.2.2.2.2.2.1, q3.2.2.2.2.2.2.2))))))

set_option maxHeartbeats 4000000 in
set_option maxRecDepth 100000 in
theorem c_X4_price (l : Launch) (G : va_G) (cI cJ cZ cO cA : ClassId) (e : Nat × Nat) (aE : Nat → Nat) (aR : Nat → Nat) (aT : Nat) (aS : Nat → Nat) (aH : Nat → Nat) (aX : Nat → Nat) (sz : Nat) (un : Nat → Nat → Int32) (tp : Nat → Int32) (sh : Nat → Int64) (de : Int64) (co : Int64) (ma : Int32) (ru : Int32) (fo : Int32) (pr : Nat → Int32) (pu : Nat → Int32) (ta : Nat → Int32) (se : Nat → Int32) (qu : Nat → Int32) (im : Nat → Int32) (su : Nat → Int64) (tc : Int32) (sc : Int32) (rc : Int32) (cn : Int32) (so : Int32) (p0 : Int32) (p1 : Int32) (p2 : Int32) {res : Int32 × (Nat → Nat → Int32) × (Nat → Int32) × (Nat → Int64) × Int64 × Int64 × Int32 × Int32 × Int32} (hf : f_X4_price pr ta se tc sc un tp sh de co ma ru fo p0 p1 p2 = some res) : MetI l yX4_price cX4_price 4 .int ({ frames := 6, cells := 0, slots := 0, locals := 136 } : Room) [.ref aT, .int p0, .int p1, .int p2] G (ty5 cI cJ cZ cO cA) e (wE cI cJ cA aE aR un tp sh de co ma ru fo ++ (wT aT (aS 0) (aH 0) (aE 0) (aX 0) ++ (wS cI cJ aS pr pu ta se qu im su tc sc rc cn so ++ ([] : va_W)))) (wE cI cJ cA aE aR res.2.1 res.2.2.1 res.2.2.2.1 res.2.2.2.2.1 res.2.2.2.2.2.1 res.2.2.2.2.2.2.1 res.2.2.2.2.2.2.2.1 res.2.2.2.2.2.2.2.2 ++ (wT aT (aS 0) (aH 0) (aE 0) (aX 0) ++ (wS cI cJ aS pr pu ta se qu im su tc sc rc cn so ++ ([] : va_W)))) sz res.1 := by
  refine g_body (QQ := fun A => (qI G (ty5 cI cJ cZ cO cA) A (wE cI cJ cA aE aR res.2.1 res.2.2.1 res.2.2.2.1 res.2.2.2.2.1 res.2.2.2.2.2.1 res.2.2.2.2.2.2.1 res.2.2.2.2.2.2.2.1 res.2.2.2.2.2.2.2.2 ++ (wT aT (aS 0) (aH 0) (aE 0) (aX 0) ++ (wS cI cJ aS pr pu ta se qu im su tc sc rc cn so ++ ([] : va_W)))) res.1)) (own := RX4) (by decide) rfl (Nat.le_of_ble_eq_true rfl) ?_
  intro p ev s m below meth c A ls hx hb hr hml hown hts hlk hA hP hD hS hK hE hl
  have hl : lv_has ls 4 [(0, .ref aT), (1, .int p0), (2, .int p1), (3, .int p2)] := hl
  show W p l ev ({ frames := 6, cells := 0, slots := 0, locals := 136 } : Room) s m ([.ref aT, .int p0, .int p1, .int p2] : List Value).toArray below meth c s.heap [] 0 0 (MQ below (qI G (ty5 cI cJ cZ cO cA) A (wE cI cJ cA aE aR res.2.1 res.2.2.1 res.2.2.2.1 res.2.2.2.2.1 res.2.2.2.2.2.1 res.2.2.2.2.2.2.1 res.2.2.2.2.2.2.2.1 res.2.2.2.2.2.2.2.2 ++ (wT aT (aS 0) (aH 0) (aE 0) (aX 0) ++ (wS cI cJ aS pr pu ta se qu im su tc sc rc cn so ++ ([] : va_W)))) res.1) ([.ref aT, .int p0, .int p1, .int p2] : List Value).toArray s 0 0 A) (F0 m 0 ls [])
  have h := hf
  unfold f_X4_price at h
  refine lv_iload_n hx hb dX4_price_0 rfl (lv_at hl 1 rfl) ?_
  refine lv_iload_n hx hb dX4_price_1 rfl (lv_at hl 2 rfl) ?_
  refine lv_iload_n hx hb dX4_price_2 rfl (lv_at hl 3 rfl) ?_
  obtain ⟨q1, hq1, h⟩ := bd_s h
  refine kSi (n := 3) (As := [.int p0, .int p1, .int p2]) (rest := []) hx hb hml hown hts (c_X4_isTarget l G cI cJ cZ cO cA e _ p0 p1 p2 hq1) (tb_S kw293 kw294 kw1 kw295) rfl rfl (by decide +kernel) ⟨Nat.le_of_ble_eq_true rfl, Nat.le_of_ble_eq_true rfl⟩ hK hP hD hS hA hE rfl rfl hl.1 (Nat.le_of_ble_eq_true rfl) ⟨Nat.zero_le _, Nat.zero_le _⟩ dX4_price_3 (fun H locs hP hD hS => ?_)
  refine lv_if_ne (tgt := 12) hx hb dX4_price_6 (by decide) (fun c2 => ?_) (fun c2 => ?_)
  · replace h := (if_neg c2).symm.trans h
    refine lv_aload_n hx hb dX4_price_12 rfl (lv_at hl 0 rfl) ?_
    refine va_get (D := G) (ci := 4) (v := .ref (aE 0)) (C := RX4) (T := TX4) (N := 4) hx hb hts uX4 hown hK hP 13 rfl rfl 2 (by decide) (hts _ kw167) (fun _ h9 => h9) rfl dX4_price_13 ?_
    refine lv_aload_n hx hb dX4_price_16 rfl (lv_at hl 0 rfl) ?_
    refine va_get (D := G) (ci := 4) (v := .ref (aS 0)) (C := RX4) (T := TX4) (N := 4) hx hb hts uX4 hown hK hP 13 rfl rfl 0 (by decide) (hts _ kw165) (fun _ h9 => h9) rfl dX4_price_17 ?_
    refine lv_iload_n hx hb dX4_price_20 rfl (lv_at hl 1 rfl) ?_
    refine lv_iload_n hx hb dX4_price_21 rfl (lv_at hl 2 rfl) ?_
    refine lv_iload_n hx hb dX4_price_22 rfl (lv_at hl 3 rfl) ?_
    obtain ⟨q3, hq3, h⟩ := bd_s h
    refine kVv (n := 4) (C := RX1) (ws' := wE cI cJ cA aE aR q3.1 q3.2.1 q3.2.2.1 q3.2.2.2.1 q3.2.2.2.2.1 q3.2.2.2.2.2.1 q3.2.2.2.2.2.2.1 q3.2.2.2.2.2.2.2 ++ (wT aT (aS 0) (aH 0) (aE 0) (aX 0) ++ (wS cI cJ aS pr pu ta se qu im su tc sc rc cn so ++ ([] : va_W)))) (As := [.ref (aS 0), .int p0, .int p1, .int p2]) (rest := []) hx hb hml hown hts (c_X1_find l G cI cJ cZ cO cA e aE aR aS _ un tp sh de co ma ru fo pr pu ta se qu im su tc sc rc cn so p0 p1 p2 hq3) (tb_V kw300 kw301 kw302 kw5 kw303) rfl rfl (by decide +kernel) ⟨Nat.le_of_ble_eq_true rfl, Nat.le_of_ble_eq_true rfl⟩ hK hP hD hS hA hE 0 rfl rfl [0, 1, 2, 3, 4, 5, 6, 7, 8, 9, 10, 11, 12, 14, 15, 16, 17, 18, 19, 20, 21] [13] rfl rfl rfl 22 ⟨rfl, rfl⟩ (by decide +kernel) (by decide +kernel) rfl rfl hl.1 (Nat.le_of_ble_eq_true rfl) ⟨Nat.zero_le _, Nat.zero_le _⟩ dX4_price_23 (fun H locs hP hD hS => ?_)
    refine lv_aload_n hx hb dX4_price_26 rfl (lv_at hl 0 rfl) ?_
    refine va_get (D := G) (ci := 4) (v := .ref (aE 0)) (C := RX4) (T := TX4) (N := 4) hx hb hts uX4 hown hK hP 13 rfl rfl 2 (by decide) (hts _ kw167) (fun _ h9 => h9) rfl dX4_price_27 ?_
    refine va_getN (D := G) (ci := 1) (v := .int q3.2.2.2.2.2.2.2) (C := RX1) (T := TX1) (N := 8) hx hb hts uX1 hown hK hP 0 rfl rfl 7 (by decide) (hE.nw nk114) (fun _ h9 => h9) rfl dX4_price_30 ?_
    refine lv_if_eq (tgt := 46) hx hb dX4_price_33 (by decide) (fun c4 => ?_) (fun c4 => ?_)
    · replace h := (if_pos c4).symm.trans h
      refine lv_ldc (v := (-2000000000)) hx hb hown (hts _ kw333) dX4_price_46 ?_
      rw [← Option.some.inj h]
      exact kri hx hb hr hlk rfl rfl hP hD hS hK dX4_price_48
    · replace h := (if_neg c4).symm.trans h
      refine lv_aload_n hx hb dX4_price_36 rfl (lv_at hl 0 rfl) ?_
      refine va_get (D := G) (ci := 4) (v := .ref (aE 0)) (C := RX4) (T := TX4) (N := 4) hx hb hts uX4 hown hK hP 13 rfl rfl 2 (by decide) (hts _ kw167) (fun _ h9 => h9) rfl dX4_price_37 ?_
      obtain ⟨q5, hq5, h⟩ := bd_s h
      refine kVi (n := 0) (C := RX1) (ws' := wE cI cJ cA aE aR q3.1 q3.2.1 q3.2.2.1 q3.2.2.2.1 q3.2.2.2.2.1 q3.2.2.2.2.2.1 q3.2.2.2.2.2.2.1 q3.2.2.2.2.2.2.2 ++ (wT aT (aS 0) (aH 0) (aE 0) (aX 0) ++ (wS cI cJ aS pr pu ta se qu im su tc sc rc cn so ++ ([] : va_W)))) (As := []) (rest := []) hx hb hml hown hts (c_X1_thousandths l G cI cJ cZ cO cA e aE aR _ q3.1 q3.2.1 q3.2.2.1 q3.2.2.2.1 q3.2.2.2.2.1 q3.2.2.2.2.2.1 q3.2.2.2.2.2.2.1 q3.2.2.2.2.2.2.2 hq5) (tb_V kw484 kw485 kw486 kw5 kw487) rfl rfl (by decide +kernel) ⟨Nat.le_of_ble_eq_true rfl, Nat.le_of_ble_eq_true rfl⟩ hK hP hD hS hA hE 0 rfl rfl [0, 1, 2, 3, 4, 5, 6, 7, 8, 9, 10, 11, 12] [13, 14, 15, 16, 17, 18, 19, 20, 21] rfl rfl rfl 22 ⟨rfl, rfl⟩ (by decide +kernel) (by decide +kernel) rfl rfl hl.1 (Nat.le_of_ble_eq_true rfl) ⟨Nat.zero_le _, Nat.zero_le _⟩ dX4_price_40 (fun H locs hP hD hS => ?_)
      refine lv_goto (tgt := 48) hx hb dX4_price_43 (by decide) ?_
      rw [← Option.some.inj h]
      exact kri hx hb hr hlk rfl rfl hP hD hS hK dX4_price_48
  · replace h := (if_pos c2).symm.trans h
    refine lv_ldc (v := (-2000000002)) hx hb hown (hts _ kw192) dX4_price_9 ?_
    rw [← Option.some.inj h]
    exact kri hx hb hr hlk rfl rfl hP hD hS hK dX4_price_11

/-! X2_insertRequest -/
def f_X2_insertRequest_j52 (qu : Nat → Int32) (rc : Int32) (v1 : Int32) (v2 : Int32) (v3 : Int32) (t0 : Int32) : Option ((Nat → Int32) × Int32) :=
  gd (ib t0 30) (gd (ib (t0 + 1) 30) (gd (ib (t0 + 2) 30) (some ((upd (upd (upd qu t0.toNatClampNeg v1) (t0 + 1).toNatClampNeg v2) (t0 + 2).toNatClampNeg v3), (rc + 1)))))
def f_X2_insertRequest_j41 (qu : Nat → Int32) (rc : Int32) (v1 : Int32) (v2 : Int32) (v3 : Int32) (v4 : Int32) (v5 : Int32) : Option ((Nat → Int32) × Int32) :=
  if v4 = 0 then (f_X2_insertRequest_j52 qu rc v1 v2 v3 v5) else (f_X2_insertRequest_j52 qu rc v1 v2 v3 0)
def f_X2_insertRequest (qu : Nat → Int32) (rc : Int32) (p0 : Int32) (p1 : Int32) (p2 : Int32) (p3 : Int32) : Option ((Nat → Int32) × Int32) :=
  if ((rc * 3) + 3) ≤ 30 then (if p3 = 0 then (f_X2_insertRequest_j41 qu rc p0 p1 p2 p3 (rc * 3)) else (gd (cpk 0 3 (rc * 3) 30 30) (f_X2_insertRequest_j41 (va_cpy qu qu (0 : Int32).toNatClampNeg (3 : Int32).toNatClampNeg (rc * 3).toNatClampNeg) rc p0 p1 p2 p3 (rc * 3)))) else (some (qu, rc))

set_option maxHeartbeats 4000000 in
set_option maxRecDepth 100000 in
theorem c_X2_insertRequest (l : Launch) (G : va_G) (cI cJ cZ cO cA : ClassId) (e : Nat × Nat) (aS : Nat → Nat) (sz : Nat) (pr : Nat → Int32) (pu : Nat → Int32) (ta : Nat → Int32) (se : Nat → Int32) (qu : Nat → Int32) (im : Nat → Int32) (su : Nat → Int64) (tc : Int32) (sc : Int32) (rc : Int32) (cn : Int32) (so : Int32) (p0 : Int32) (p1 : Int32) (p2 : Int32) (p3 : Int32) {res : (Nat → Int32) × Int32} (hf : f_X2_insertRequest qu rc p0 p1 p2 p3 = some res) : MetV l yX2_insertRequest cX2_insertRequest 7 ({ frames := 1, cells := 0, slots := 0, locals := 40 } : Room) [.ref (aS 0), .int p0, .int p1, .int p2, .int p3] G (ty5 cI cJ cZ cO cA) e (wS cI cJ aS pr pu ta se qu im su tc sc rc cn so ++ ([] : va_W)) (wS cI cJ aS pr pu ta se res.1 im su tc sc res.2 cn so ++ ([] : va_W)) sz := by
  refine g_body (QQ := fun A => (qV G (ty5 cI cJ cZ cO cA) A (wS cI cJ aS pr pu ta se res.1 im su tc sc res.2 cn so ++ ([] : va_W)))) (own := RX2) (by decide) rfl (Nat.le_of_ble_eq_true rfl) ?_
  intro p ev s m below meth c A ls hx hb hr hml hown hts hlk hA hP hD hS hK hE hl
  have hl : lv_has ls 7 [(0, .ref (aS 0)), (1, .int p0), (2, .int p1), (3, .int p2), (4, .int p3)] := hl
  show W p l ev ({ frames := 1, cells := 0, slots := 0, locals := 40 } : Room) s m ([.ref (aS 0), .int p0, .int p1, .int p2, .int p3] : List Value).toArray below meth c s.heap [] 0 0 (MQ below (qV G (ty5 cI cJ cZ cO cA) A (wS cI cJ aS pr pu ta se res.1 im su tc sc res.2 cn so ++ ([] : va_W))) ([.ref (aS 0), .int p0, .int p1, .int p2, .int p3] : List Value).toArray s 0 0 A) (F0 m 0 ls [])
  have h := hf
  unfold f_X2_insertRequest at h
  refine lv_aload_n hx hb dX2_insertRequest_0 rfl (lv_at hl 0 rfl) ?_
  refine va_get (D := G) (ci := 2) (v := .int rc) (C := RX2) (T := TX2) (N := 12) hx hb hts uX2 hown hK hP 0 rfl rfl 9 (by decide) (hts _ kw45) (fun _ h9 => h9) rfl dX2_insertRequest_1 ?_
  refine lv_iconst (v := 3) hx hb dX2_insertRequest_4 (by decide) ?_
  refine lv_imul hx hb dX2_insertRequest_5 ?_
  refine lv_istore (lv' := [(5, .int (rc * 3)), (0, .ref (aS 0)), (1, .int p0), (2, .int p1), (3, .int p2), (4, .int p3)]) hx hb dX2_insertRequest_6 hl (by decide) rfl (fun ls hl => ?_)
  refine lv_iload hx hb dX2_insertRequest_8 (lv_at hl 0 rfl) ?_
  refine lv_iconst (v := 3) hx hb dX2_insertRequest_10 (by decide) ?_
  refine lv_iadd hx hb dX2_insertRequest_11 ?_
  refine lv_aload_n hx hb dX2_insertRequest_12 rfl (lv_at hl 1 rfl) ?_
  refine va_get (D := G) (ci := 2) (v := .ref (aS 5)) (C := RX2) (T := TX2) (N := 12) hx hb hts uX2 hown hK hP 0 rfl rfl 4 (by decide) (hts _ kw34) (fun _ h9 => h9) rfl dX2_insertRequest_13 ?_
  refine va_alen (v := 30) hx hb hK hP 5 0 rfl rfl rfl dX2_insertRequest_16 ?_
  refine lv_icmp_le (tgt := 21) hx hb dX2_insertRequest_17 (by decide) (fun c1 => ?_) (fun c1 => ?_)
  · replace h := (if_pos c1).symm.trans h
    refine lv_iload hx hb dX2_insertRequest_21 (lv_at hl 5 rfl) ?_
    have hJ3 : ∀ (qu_3 : Nat → Int32) (rc_3 : Int32) (v5_3 : Int32) (H : Heap) (locs : List Loc) (ls : Array Slot), f_X2_insertRequest_j41 qu_3 rc_3 p0 p1 p2 p3 v5_3 = some res → va_P G vwCl (wS cI cJ aS pr pu ta se qu_3 im su tc sc rc_3 cn so ++ ([] : va_W)) H → va_D A (wS cI cJ aS pr pu ta se qu_3 im su tc sc rc_3 cn so ++ ([] : va_W)) → va_S A s.heap H locs → lv_has ls 7 [(0, .ref (aS 0)), (1, .int p0), (2, .int p1), (3, .int p2), (4, .int p3), (5, .int v5_3)] → W p l ev ({ frames := 1, cells := 0, slots := 0, locals := 40 } : Room) s m ([.ref (aS 0), .int p0, .int p1, .int p2, .int p3] : List Value).toArray below meth c H locs 0 0 (MQ below (qV G (ty5 cI cJ cZ cO cA) A (wS cI cJ aS pr pu ta se res.1 im su tc sc res.2 cn so ++ ([] : va_W))) ([.ref (aS 0), .int p0, .int p1, .int p2, .int p3] : List Value).toArray s 0 0 A) (F0 m 41 ls []) := by
      intro qu_3 rc_3 v5_3 H locs ls h hP hD hS hl
      unfold f_X2_insertRequest_j41 at h
      refine lv_iload hx hb dX2_insertRequest_41 (lv_at hl 4 rfl) ?_
      have hJ5 : ∀ (qu_5 : Nat → Int32) (rc_5 : Int32) (t0_5 : Int32) (H : Heap) (locs : List Loc) (ls : Array Slot), f_X2_insertRequest_j52 qu_5 rc_5 p0 p1 p2 t0_5 = some res → va_P G vwCl (wS cI cJ aS pr pu ta se qu_5 im su tc sc rc_5 cn so ++ ([] : va_W)) H → va_D A (wS cI cJ aS pr pu ta se qu_5 im su tc sc rc_5 cn so ++ ([] : va_W)) → va_S A s.heap H locs → lv_has ls 7 [(0, .ref (aS 0)), (1, .int p0), (2, .int p1), (3, .int p2)] → W p l ev ({ frames := 1, cells := 0, slots := 0, locals := 40 } : Room) s m ([.ref (aS 0), .int p0, .int p1, .int p2, .int p3] : List Value).toArray below meth c H locs 0 0 (MQ below (qV G (ty5 cI cJ cZ cO cA) A (wS cI cJ aS pr pu ta se res.1 im su tc sc res.2 cn so ++ ([] : va_W))) ([.ref (aS 0), .int p0, .int p1, .int p2, .int p3] : List Value).toArray s 0 0 A) (F0 m 52 ls [.int t0_5]) := by
        intro qu_5 rc_5 t0_5 H locs ls h hP hD hS hl
        unfold f_X2_insertRequest_j52 at h
        refine lv_istore (lv' := [(6, .int t0_5), (0, .ref (aS 0)), (1, .int p0), (2, .int p1), (3, .int p2)]) hx hb dX2_insertRequest_52 hl (by decide) rfl (fun ls hl => ?_)
        refine lv_aload_n hx hb dX2_insertRequest_54 rfl (lv_at hl 1 rfl) ?_
        refine va_get (D := G) (ci := 2) (v := .ref (aS 5)) (C := RX2) (T := TX2) (N := 12) hx hb hts uX2 hown hK hP 0 rfl rfl 4 (by decide) (hts _ kw34) (fun _ h9 => h9) rfl dX2_insertRequest_55 ?_
        refine lv_iload hx hb dX2_insertRequest_58 (lv_at hl 0 rfl) ?_
        refine lv_iload_n hx hb dX2_insertRequest_60 rfl (lv_at hl 2 rfl) ?_
        obtain ⟨g6, h⟩ := gd_s h
        refine va_iast hx hb hK hP hD hS 5 0 rfl rfl (ib_in g6) dX2_insertRequest_61 (fun H locs hP hD hS => ?_)
        have hP : va_P G vwCl (wS cI cJ aS pr pu ta se (upd qu_5 t0_5.toNatClampNeg p0) im su tc sc rc_5 cn so ++ ([] : va_W)) H := hP
        have hD : va_D A (wS cI cJ aS pr pu ta se (upd qu_5 t0_5.toNatClampNeg p0) im su tc sc rc_5 cn so ++ ([] : va_W)) := hD
        refine lv_aload_n hx hb dX2_insertRequest_62 rfl (lv_at hl 1 rfl) ?_
        refine va_get (D := G) (ci := 2) (v := .ref (aS 5)) (C := RX2) (T := TX2) (N := 12) hx hb hts uX2 hown hK hP 0 rfl rfl 4 (by decide) (hts _ kw34) (fun _ h9 => h9) rfl dX2_insertRequest_63 ?_
        refine lv_iload hx hb dX2_insertRequest_66 (lv_at hl 0 rfl) ?_
        refine lv_iconst (v := 1) hx hb dX2_insertRequest_68 (by decide) ?_
        refine lv_iadd hx hb dX2_insertRequest_69 ?_
        refine lv_iload_n hx hb dX2_insertRequest_70 rfl (lv_at hl 3 rfl) ?_
        obtain ⟨g7, h⟩ := gd_s h
        refine va_iast hx hb hK hP hD hS 5 0 rfl rfl (ib_in g7) dX2_insertRequest_71 (fun H locs hP hD hS => ?_)
        have hP : va_P G vwCl (wS cI cJ aS pr pu ta se (upd (upd qu_5 t0_5.toNatClampNeg p0) (t0_5 + 1).toNatClampNeg p1) im su tc sc rc_5 cn so ++ ([] : va_W)) H := hP
        have hD : va_D A (wS cI cJ aS pr pu ta se (upd (upd qu_5 t0_5.toNatClampNeg p0) (t0_5 + 1).toNatClampNeg p1) im su tc sc rc_5 cn so ++ ([] : va_W)) := hD
        refine lv_aload_n hx hb dX2_insertRequest_72 rfl (lv_at hl 1 rfl) ?_
        refine va_get (D := G) (ci := 2) (v := .ref (aS 5)) (C := RX2) (T := TX2) (N := 12) hx hb hts uX2 hown hK hP 0 rfl rfl 4 (by decide) (hts _ kw34) (fun _ h9 => h9) rfl dX2_insertRequest_73 ?_
        refine lv_iload hx hb dX2_insertRequest_76 (lv_at hl 0 rfl) ?_
        refine lv_iconst (v := 2) hx hb dX2_insertRequest_78 (by decide) ?_
        refine lv_iadd hx hb dX2_insertRequest_79 ?_
        refine lv_iload_n hx hb dX2_insertRequest_80 rfl (lv_at hl 4 rfl) ?_
        obtain ⟨g8, h⟩ := gd_s h
        refine va_iast hx hb hK hP hD hS 5 0 rfl rfl (ib_in g8) dX2_insertRequest_81 (fun H locs hP hD hS => ?_)
        have hP : va_P G vwCl (wS cI cJ aS pr pu ta se (upd (upd (upd qu_5 t0_5.toNatClampNeg p0) (t0_5 + 1).toNatClampNeg p1) (t0_5 + 2).toNatClampNeg p2) im su tc sc rc_5 cn so ++ ([] : va_W)) H := hP
        have hD : va_D A (wS cI cJ aS pr pu ta se (upd (upd (upd qu_5 t0_5.toNatClampNeg p0) (t0_5 + 1).toNatClampNeg p1) (t0_5 + 2).toNatClampNeg p2) im su tc sc rc_5 cn so ++ ([] : va_W)) := hD
        refine lv_aload_n hx hb dX2_insertRequest_82 rfl (lv_at hl 1 rfl) ?_
        refine lv_dup hx hb dX2_insertRequest_83 rfl ?_
        refine va_get (D := G) (ci := 2) (v := .int rc_5) (C := RX2) (T := TX2) (N := 12) hx hb hts uX2 hown hK hP 0 rfl rfl 9 (by decide) (hts _ kw45) (fun _ h9 => h9) rfl dX2_insertRequest_84 ?_
        refine lv_iconst (v := 1) hx hb dX2_insertRequest_87 (by decide) ?_
        refine lv_iadd hx hb dX2_insertRequest_88 ?_
        refine va_put (D := G) (ci := 2) (ty := .int) (v := .int (rc_5 + 1)) (C := RX2) (T := TX2) (N := 12) hx hb hts uX2 tyX2 tyX2_ok nmX2 hown hK hP hD hS 0 rfl rfl 9 (by decide) (hts _ kw45) (fun _ h9 => h9) rfl (by decide +kernel) rfl rfl (Nat.le_of_ble_eq_true rfl) dX2_insertRequest_89 (fun H locs hP hD hS => ?_)
        have hP : va_P G vwCl (wS cI cJ aS pr pu ta se (upd (upd (upd qu_5 t0_5.toNatClampNeg p0) (t0_5 + 1).toNatClampNeg p1) (t0_5 + 2).toNatClampNeg p2) im su tc sc (rc_5 + 1) cn so ++ ([] : va_W)) H := hP
        have hD : va_D A (wS cI cJ aS pr pu ta se (upd (upd (upd qu_5 t0_5.toNatClampNeg p0) (t0_5 + 1).toNatClampNeg p1) (t0_5 + 2).toNatClampNeg p2) im su tc sc (rc_5 + 1) cn so ++ ([] : va_W)) := hD
        rw [← Option.some.inj h]
        exact krv hx hb hr hlk hP hD hS hK dX2_insertRequest_92
      refine lv_if_eq (tgt := 50) hx hb dX2_insertRequest_43 (by decide) (fun c4 => ?_) (fun c4 => ?_)
      · replace h := (if_pos c4).symm.trans h
        refine lv_iload hx hb dX2_insertRequest_50 (lv_at hl 5 rfl) ?_
        exact hJ5 qu_3 rc_3 v5_3 _ _ _ h hP hD hS (lv_sub hl [0, 1, 2, 3] rfl)
      · replace h := (if_neg c4).symm.trans h
        refine lv_iconst (v := 0) hx hb dX2_insertRequest_46 (by decide) ?_
        refine lv_goto (tgt := 52) hx hb dX2_insertRequest_47 (by decide) ?_
        exact hJ5 qu_3 rc_3 0 _ _ _ h hP hD hS (lv_sub hl [0, 1, 2, 3] rfl)
    refine lv_if_eq (tgt := 41) hx hb dX2_insertRequest_23 (by decide) (fun c2 => ?_) (fun c2 => ?_)
    · replace h := (if_pos c2).symm.trans h
      exact hJ3 qu rc (rc * 3) _ _ _ h hP hD hS (lv_sub hl [1, 2, 3, 4, 5, 0] rfl)
    · replace h := (if_neg c2).symm.trans h
      refine lv_aload_n hx hb dX2_insertRequest_26 rfl (lv_at hl 1 rfl) ?_
      refine va_get (D := G) (ci := 2) (v := .ref (aS 5)) (C := RX2) (T := TX2) (N := 12) hx hb hts uX2 hown hK hP 0 rfl rfl 4 (by decide) (hts _ kw34) (fun _ h9 => h9) rfl dX2_insertRequest_27 ?_
      refine lv_iconst (v := 0) hx hb dX2_insertRequest_30 (by decide) ?_
      refine lv_aload_n hx hb dX2_insertRequest_31 rfl (lv_at hl 1 rfl) ?_
      refine va_get (D := G) (ci := 2) (v := .ref (aS 5)) (C := RX2) (T := TX2) (N := 12) hx hb hts uX2 hown hK hP 0 rfl rfl 4 (by decide) (hts _ kw34) (fun _ h9 => h9) rfl dX2_insertRequest_32 ?_
      refine lv_iconst (v := 3) hx hb dX2_insertRequest_35 (by decide) ?_
      refine lv_iload hx hb dX2_insertRequest_36 (lv_at hl 0 rfl) ?_
      obtain ⟨g9, h⟩ := gd_s h
      have k9 := cpk_s g9
      refine va_copyi hx hb (hml.trans hl.1.symm) hown (hts _ kw202) (hts _ kw204) (hts _ kw203) (hts _ kw7) hK hP hD hS 5 5 0 0 rfl rfl rfl rfl rfl k9.1 k9.2.1 k9.2.2.1 k9.2.2.2.1 k9.2.2.2.2 (fun _ _ => rfl) (Nat.le_of_ble_eq_true rfl) (Nat.le_of_ble_eq_true rfl) dX2_insertRequest_38 (fun H locs hP hD hS => ?_)
      have hP : va_P G vwCl (wS cI cJ aS pr pu ta se (va_cpy qu qu (0 : Int32).toNatClampNeg (3 : Int32).toNatClampNeg (rc * 3).toNatClampNeg) im su tc sc rc cn so ++ ([] : va_W)) H := hP
      have hD : va_D A (wS cI cJ aS pr pu ta se (va_cpy qu qu (0 : Int32).toNatClampNeg (3 : Int32).toNatClampNeg (rc * 3).toNatClampNeg) im su tc sc rc cn so ++ ([] : va_W)) := hD
      exact hJ3 (va_cpy qu qu (0 : Int32).toNatClampNeg (3 : Int32).toNatClampNeg (rc * 3).toNatClampNeg) rc (rc * 3) _ _ _ h hP hD hS (lv_sub hl [1, 2, 3, 4, 5, 0] rfl)
  · replace h := (if_neg c1).symm.trans h
    rw [← Option.some.inj h]
    exact krv hx hb hr hlk hP hD hS hK dX2_insertRequest_20

/-! X4_putRequest -/
def f_X4_putRequest (pr : Nat → Int32) (pu : Nat → Int32) (ta : Nat → Int32) (se : Nat → Int32) (im : Nat → Int32) (su : Nat → Int64) (tc : Int32) (sc : Int32) (cn : Int32) (so : Int32) (qu : Nat → Int32) (rc : Int32) (hs : Nat → SV) (ol : Int32) (ct : Int32) (p0 : Int32) (p1 : Int32) (p2 : Int32) (p3 : Int32) : Option (Int32 × (Nat → Int32) × Int32 × (Nat → SV) × Int32 × Int32) :=
  (f_X4_areAtMost p0 p1 p2 2000).bind (fun q1 => if q1 = 0 then (some ((-2000000002), qu, rc, hs, ol, ct)) else (if rc < 10 then ((f_X0_keep pr pu ta se qu im su tc sc rc cn so hs ol ct).bind (fun q4 => (f_X2_insertRequest qu rc p0 p1 p2 p3).bind (fun q5 => some (q5.2, q5.1, q5.2, q4.1, q4.2.1, q4.2.2)))) else (some ((-2000000004), qu, rc, hs, ol, ct))))

set_option maxHeartbeats 4000000 in
set_option maxRecDepth 100000 in
theorem c_X4_putRequest (l : Launch) (G : va_G) (cI cJ cZ cO cA : ClassId) (e : Nat × Nat) (aT : Nat) (aS : Nat → Nat) (aH : Nat → Nat) (aE : Nat → Nat) (aX : Nat → Nat) (aK : Nat → Nat → Nat) (sz : Nat) (pr : Nat → Int32) (pu : Nat → Int32) (ta : Nat → Int32) (se : Nat → Int32) (qu : Nat → Int32) (im : Nat → Int32) (su : Nat → Int64) (tc : Int32) (sc : Int32) (rc : Int32) (cn : Int32) (so : Int32) (hs : Nat → SV) (ol : Int32) (ct : Int32) (p0 : Int32) (p1 : Int32) (p2 : Int32) (p3 : Int32) {res : Int32 × (Nat → Int32) × Int32 × (Nat → SV) × Int32 × Int32} (hf : f_X4_putRequest pr pu ta se im su tc sc cn so qu rc hs ol ct p0 p1 p2 p3 = some res) : MetI l yX4_putRequest cX4_putRequest 5 .int ({ frames := 3, cells := 0, slots := 0, locals := 82 } : Room) [.ref aT, .int p0, .int p1, .int p2, .int p3] G (ty5 cI cJ cZ cO cA) e (wT aT (aS 0) (aH 0) (aE 0) (aX 0) ++ (wS cI cJ aS pr pu ta se qu im su tc sc rc cn so ++ (wH cI cJ cO aH aK hs ol ct ++ ([] : va_W)))) (wT aT (aS 0) (aH 0) (aE 0) (aX 0) ++ (wS cI cJ aS pr pu ta se res.2.1 im su tc sc res.2.2.1 cn so ++ (wH cI cJ cO aH aK res.2.2.2.1 res.2.2.2.2.1 res.2.2.2.2.2 ++ ([] : va_W)))) sz res.1 := by
  refine g_body (QQ := fun A => (qI G (ty5 cI cJ cZ cO cA) A (wT aT (aS 0) (aH 0) (aE 0) (aX 0) ++ (wS cI cJ aS pr pu ta se res.2.1 im su tc sc res.2.2.1 cn so ++ (wH cI cJ cO aH aK res.2.2.2.1 res.2.2.2.2.1 res.2.2.2.2.2 ++ ([] : va_W)))) res.1)) (own := RX4) (by decide) rfl (Nat.le_of_ble_eq_true rfl) ?_
  intro p ev s m below meth c A ls hx hb hr hml hown hts hlk hA hP hD hS hK hE hl
  have hl : lv_has ls 5 [(0, .ref aT), (1, .int p0), (2, .int p1), (3, .int p2), (4, .int p3)] := hl
  show W p l ev ({ frames := 3, cells := 0, slots := 0, locals := 82 } : Room) s m ([.ref aT, .int p0, .int p1, .int p2, .int p3] : List Value).toArray below meth c s.heap [] 0 0 (MQ below (qI G (ty5 cI cJ cZ cO cA) A (wT aT (aS 0) (aH 0) (aE 0) (aX 0) ++ (wS cI cJ aS pr pu ta se res.2.1 im su tc sc res.2.2.1 cn so ++ (wH cI cJ cO aH aK res.2.2.2.1 res.2.2.2.2.1 res.2.2.2.2.2 ++ ([] : va_W)))) res.1) ([.ref aT, .int p0, .int p1, .int p2, .int p3] : List Value).toArray s 0 0 A) (F0 m 0 ls [])
  have h := hf
  unfold f_X4_putRequest at h
  refine lv_iload_n hx hb dX4_putRequest_0 rfl (lv_at hl 1 rfl) ?_
  refine lv_iload_n hx hb dX4_putRequest_1 rfl (lv_at hl 2 rfl) ?_
  refine lv_iload_n hx hb dX4_putRequest_2 rfl (lv_at hl 3 rfl) ?_
  refine lv_sipush (v := 2000) hx hb dX4_putRequest_3 (by decide) ?_
  obtain ⟨q1, hq1, h⟩ := bd_s h
  refine kSi (n := 4) (As := [.int p0, .int p1, .int p2, .int 2000]) (rest := []) hx hb hml hown hts (c_X4_areAtMost l G cI cJ cZ cO cA e _ p0 p1 p2 2000 hq1) (tb_S kw297 kw298 kw1 kw299) rfl rfl (by decide +kernel) ⟨Nat.le_of_ble_eq_true rfl, Nat.le_of_ble_eq_true rfl⟩ hK hP hD hS hA hE rfl rfl hl.1 (Nat.le_of_ble_eq_true rfl) ⟨Nat.zero_le _, Nat.zero_le _⟩ dX4_putRequest_6 (fun H locs hP hD hS => ?_)
  refine lv_if_ne (tgt := 15) hx hb dX4_putRequest_9 (by decide) (fun c2 => ?_) (fun c2 => ?_)
  · replace h := (if_neg c2).symm.trans h
    refine lv_aload_n hx hb dX4_putRequest_15 rfl (lv_at hl 0 rfl) ?_
    refine va_get (D := G) (ci := 4) (v := .ref (aS 0)) (C := RX4) (T := TX4) (N := 4) hx hb hts uX4 hown hK hP 0 rfl rfl 0 (by decide) (hts _ kw165) (fun _ h9 => h9) rfl dX4_putRequest_16 ?_
    refine va_getN (D := G) (ci := 2) (v := .int rc) (C := RX2) (T := TX2) (N := 12) hx hb hts uX2 hown hK hP 1 rfl rfl 9 (by decide) (hE.nw nk46) (fun _ h9 => h9) rfl dX4_putRequest_19 ?_
    refine lv_bipush (v := 10) hx hb dX4_putRequest_22 (by decide) ?_
    refine lv_icmp_lt (tgt := 30) hx hb dX4_putRequest_24 (by decide) (fun c3 => ?_) (fun c3 => ?_)
    · replace h := (if_pos c3).symm.trans h
      refine lv_aload_n hx hb dX4_putRequest_30 rfl (lv_at hl 0 rfl) ?_
      refine va_get (D := G) (ci := 4) (v := .ref (aH 0)) (C := RX4) (T := TX4) (N := 4) hx hb hts uX4 hown hK hP 0 rfl rfl 1 (by decide) (hts _ kw166) (fun _ h9 => h9) rfl dX4_putRequest_31 ?_
      refine lv_aload_n hx hb dX4_putRequest_34 rfl (lv_at hl 0 rfl) ?_
      refine va_get (D := G) (ci := 4) (v := .ref (aS 0)) (C := RX4) (T := TX4) (N := 4) hx hb hts uX4 hown hK hP 0 rfl rfl 0 (by decide) (hts _ kw165) (fun _ h9 => h9) rfl dX4_putRequest_35 ?_
      obtain ⟨q4, hq4, h⟩ := bd_s h
      refine kVv (n := 1) (C := RX0) (ws' := wT aT (aS 0) (aH 0) (aE 0) (aX 0) ++ (wS cI cJ aS pr pu ta se qu im su tc sc rc cn so ++ (wH cI cJ cO aH aK q4.1 q4.2.1 q4.2.2 ++ ([] : va_W)))) (As := [.ref (aS 0)]) (rest := []) hx hb hml hown hts (c_X0_keep l G cI cJ cZ cO cA e aS aH aK _ pr pu ta se qu im su tc sc rc cn so hs ol ct hq4) (tb_V kw194 kw195 kw196 kw4 kw197) rfl rfl (by decide +kernel) ⟨Nat.le_of_ble_eq_true rfl, Nat.le_of_ble_eq_true rfl⟩ hK hP hD hS hA hE 9 rfl rfl [1, 2, 3, 4, 5, 6, 7, 8, 9, 10, 11, 12, 13, 14, 15, 16, 17, 18, 19, 20, 21, 22, 23, 24, 25, 26, 27, 28, 29, 30, 31, 32, 33, 34, 35, 36, 37, 38, 39, 40, 41, 42, 43, 44, 45, 46, 47, 48, 49, 50] [0] rfl rfl rfl 51 ⟨rfl, rfl⟩ (by decide +kernel) (by decide +kernel) rfl rfl hl.1 (Nat.le_of_ble_eq_true rfl) ⟨Nat.zero_le _, Nat.zero_le _⟩ dX4_putRequest_38 (fun H locs hP hD hS => ?_)
      refine lv_aload_n hx hb dX4_putRequest_41 rfl (lv_at hl 0 rfl) ?_
      refine va_get (D := G) (ci := 4) (v := .ref (aS 0)) (C := RX4) (T := TX4) (N := 4) hx hb hts uX4 hown hK hP 0 rfl rfl 0 (by decide) (hts _ kw165) (fun _ h9 => h9) rfl dX4_putRequest_42 ?_
      refine lv_iload_n hx hb dX4_putRequest_45 rfl (lv_at hl 1 rfl) ?_
      refine lv_iload_n hx hb dX4_putRequest_46 rfl (lv_at hl 2 rfl) ?_
      refine lv_iload_n hx hb dX4_putRequest_47 rfl (lv_at hl 3 rfl) ?_
      refine lv_iload hx hb dX4_putRequest_48 (lv_at hl 4 rfl) ?_
      obtain ⟨q5, hq5, h⟩ := bd_s h
      refine kVv (n := 4) (C := RX2) (ws' := wT aT (aS 0) (aH 0) (aE 0) (aX 0) ++ (wS cI cJ aS pr pu ta se q5.1 im su tc sc q5.2 cn so ++ (wH cI cJ cO aH aK q4.1 q4.2.1 q4.2.2 ++ ([] : va_W)))) (As := [.int p0, .int p1, .int p2, .int p3]) (rest := []) hx hb hml hown hts (c_X2_insertRequest l G cI cJ cZ cO cA e aS _ pr pu ta se qu im su tc sc rc cn so p0 p1 p2 p3 hq5) (tb_V kw460 kw461 kw462 kw2 kw463) rfl rfl (by decide +kernel) ⟨Nat.le_of_ble_eq_true rfl, Nat.le_of_ble_eq_true rfl⟩ hK hP hD hS hA hE 1 rfl rfl [1, 2, 3, 4, 5, 6, 7, 8] [0, 9, 10, 11, 12, 13, 14, 15, 16, 17, 18, 19, 20, 21, 22, 23, 24, 25, 26, 27, 28, 29, 30, 31, 32, 33, 34, 35, 36, 37, 38, 39, 40, 41, 42, 43, 44, 45, 46, 47, 48, 49, 50] rfl rfl rfl 51 ⟨rfl, rfl⟩ (by decide +kernel) (by decide +kernel) rfl rfl hl.1 (Nat.le_of_ble_eq_true rfl) ⟨Nat.zero_le _, Nat.zero_le _⟩ dX4_putRequest_50 (fun H locs hP hD hS => ?_)
      refine lv_aload_n hx hb dX4_putRequest_53 rfl (lv_at hl 0 rfl) ?_
      refine va_get (D := G) (ci := 4) (v := .ref (aS 0)) (C := RX4) (T := TX4) (N := 4) hx hb hts uX4 hown hK hP 0 rfl rfl 0 (by decide) (hts _ kw165) (fun _ h9 => h9) rfl dX4_putRequest_54 ?_
      refine va_getN (D := G) (ci := 2) (v := .int q5.2) (C := RX2) (T := TX2) (N := 12) hx hb hts uX2 hown hK hP 1 rfl rfl 9 (by decide) (hE.nw nk46) (fun _ h9 => h9) rfl dX4_putRequest_57 ?_
      rw [← Option.some.inj h]
      exact kri hx hb hr hlk rfl rfl hP hD hS hK dX4_putRequest_60
    · replace h := (if_neg c3).symm.trans h
      refine lv_ldc (v := (-2000000004)) hx hb hown (hts _ kw193) dX4_putRequest_27 ?_
      rw [← Option.some.inj h]
      exact kri hx hb hr hlk rfl rfl hP hD hS hK dX4_putRequest_29
  · replace h := (if_pos c2).symm.trans h
    refine lv_ldc (v := (-2000000002)) hx hb hown (hts _ kw192) dX4_putRequest_12 ?_
    rw [← Option.some.inj h]
    exact kri hx hb hr hlk rfl rfl hP hD hS hK dX4_putRequest_14

/-! X4_request -/
def f_X4_request (pr : Nat → Int32) (pu : Nat → Int32) (ta : Nat → Int32) (se : Nat → Int32) (im : Nat → Int32) (su : Nat → Int64) (tc : Int32) (sc : Int32) (cn : Int32) (so : Int32) (qu : Nat → Int32) (rc : Int32) (hs : Nat → SV) (ol : Int32) (ct : Int32) (p0 : Int32) (p1 : Int32) (p2 : Int32) : Option (Int32 × (Nat → Int32) × Int32 × (Nat → SV) × Int32 × Int32) :=
  (f_X4_putRequest pr pu ta se im su tc sc cn so qu rc hs ol ct p0 p1 p2 0).bind (fun q1 => some (q1.1, q1.2.1, q1.2.2.1, q1.2.2.2.1, q1.2.2.2.2.1, q1.2.2.2.2.2))

set_option maxHeartbeats 4000000 in
set_option maxRecDepth 100000 in
theorem c_X4_request (l : Launch) (G : va_G) (cI cJ cZ cO cA : ClassId) (e : Nat × Nat) (aT : Nat) (aS : Nat → Nat) (aH : Nat → Nat) (aE : Nat → Nat) (aX : Nat → Nat) (aK : Nat → Nat → Nat) (sz : Nat) (pr : Nat → Int32) (pu : Nat → Int32) (ta : Nat → Int32) (se : Nat → Int32) (qu : Nat → Int32) (im : Nat → Int32) (su : Nat → Int64) (tc : Int32) (sc : Int32) (rc : Int32) (cn : Int32) (so : Int32) (hs : Nat → SV) (ol : Int32) (ct : Int32) (p0 : Int32) (p1 : Int32) (p2 : Int32) {res : Int32 × (Nat → Int32) × Int32 × (Nat → SV) × Int32 × Int32} (hf : f_X4_request pr pu ta se im su tc sc cn so qu rc hs ol ct p0 p1 p2 = some res) : MetI l yX4_request cX4_request 4 .int ({ frames := 4, cells := 0, slots := 0, locals := 106 } : Room) [.ref aT, .int p0, .int p1, .int p2] G (ty5 cI cJ cZ cO cA) e (wT aT (aS 0) (aH 0) (aE 0) (aX 0) ++ (wS cI cJ aS pr pu ta se qu im su tc sc rc cn so ++ (wH cI cJ cO aH aK hs ol ct ++ ([] : va_W)))) (wT aT (aS 0) (aH 0) (aE 0) (aX 0) ++ (wS cI cJ aS pr pu ta se res.2.1 im su tc sc res.2.2.1 cn so ++ (wH cI cJ cO aH aK res.2.2.2.1 res.2.2.2.2.1 res.2.2.2.2.2 ++ ([] : va_W)))) sz res.1 := by
  refine g_body (QQ := fun A => (qI G (ty5 cI cJ cZ cO cA) A (wT aT (aS 0) (aH 0) (aE 0) (aX 0) ++ (wS cI cJ aS pr pu ta se res.2.1 im su tc sc res.2.2.1 cn so ++ (wH cI cJ cO aH aK res.2.2.2.1 res.2.2.2.2.1 res.2.2.2.2.2 ++ ([] : va_W)))) res.1)) (own := RX4) (by decide) rfl (Nat.le_of_ble_eq_true rfl) ?_
  intro p ev s m below meth c A ls hx hb hr hml hown hts hlk hA hP hD hS hK hE hl
  have hl : lv_has ls 4 [(0, .ref aT), (1, .int p0), (2, .int p1), (3, .int p2)] := hl
  show W p l ev ({ frames := 4, cells := 0, slots := 0, locals := 106 } : Room) s m ([.ref aT, .int p0, .int p1, .int p2] : List Value).toArray below meth c s.heap [] 0 0 (MQ below (qI G (ty5 cI cJ cZ cO cA) A (wT aT (aS 0) (aH 0) (aE 0) (aX 0) ++ (wS cI cJ aS pr pu ta se res.2.1 im su tc sc res.2.2.1 cn so ++ (wH cI cJ cO aH aK res.2.2.2.1 res.2.2.2.2.1 res.2.2.2.2.2 ++ ([] : va_W)))) res.1) ([.ref aT, .int p0, .int p1, .int p2] : List Value).toArray s 0 0 A) (F0 m 0 ls [])
  have h := hf
  unfold f_X4_request at h
  refine lv_aload_n hx hb dX4_request_0 rfl (lv_at hl 0 rfl) ?_
  refine lv_iload_n hx hb dX4_request_1 rfl (lv_at hl 1 rfl) ?_
  refine lv_iload_n hx hb dX4_request_2 rfl (lv_at hl 2 rfl) ?_
  refine lv_iload_n hx hb dX4_request_3 rfl (lv_at hl 3 rfl) ?_
  refine lv_iconst (v := 0) hx hb dX4_request_4 (by decide) ?_
  obtain ⟨q1, hq1, h⟩ := bd_s h
  refine kVi (n := 4) (C := RX4) (ws' := wT aT (aS 0) (aH 0) (aE 0) (aX 0) ++ (wS cI cJ aS pr pu ta se q1.2.1 im su tc sc q1.2.2.1 cn so ++ (wH cI cJ cO aH aK q1.2.2.2.1 q1.2.2.2.2.1 q1.2.2.2.2.2 ++ ([] : va_W)))) (As := [.int p0, .int p1, .int p2, .int 0]) (rest := []) hx hb hml hown hts (c_X4_putRequest l G cI cJ cZ cO cA e aT aS aH aE aX aK _ pr pu ta se qu im su tc sc rc cn so hs ol ct p0 p1 p2 0 hq1) (tb_V kw571 kw573 kv13 kw1 kw574) rfl rfl (by decide +kernel) ⟨Nat.le_of_ble_eq_true rfl, Nat.le_of_ble_eq_true rfl⟩ hK hP hD hS hA hE 0 rfl rfl [0, 1, 2, 3, 4, 5, 6, 7, 8, 9, 10, 11, 12, 13, 14, 15, 16, 17, 18, 19, 20, 21, 22, 23, 24, 25, 26, 27, 28, 29, 30, 31, 32, 33, 34, 35, 36, 37, 38, 39, 40, 41, 42, 43, 44, 45, 46, 47, 48, 49, 50] [] rfl rfl rfl 51 ⟨rfl, rfl⟩ (by decide +kernel) (by decide +kernel) rfl rfl hl.1 (Nat.le_of_ble_eq_true rfl) ⟨Nat.zero_le _, Nat.zero_le _⟩ dX4_request_5 (fun H locs hP hD hS => ?_)
  rw [← Option.some.inj h]
  exact kri hx hb hr hlk rfl rfl hP hD hS hK dX4_request_8

/-! X4_urge -/
def f_X4_urge (pr : Nat → Int32) (pu : Nat → Int32) (ta : Nat → Int32) (se : Nat → Int32) (im : Nat → Int32) (su : Nat → Int64) (tc : Int32) (sc : Int32) (cn : Int32) (so : Int32) (qu : Nat → Int32) (rc : Int32) (hs : Nat → SV) (ol : Int32) (ct : Int32) (p0 : Int32) (p1 : Int32) (p2 : Int32) : Option (Int32 × (Nat → Int32) × Int32 × (Nat → SV) × Int32 × Int32) :=
  (f_X4_putRequest pr pu ta se im su tc sc cn so qu rc hs ol ct p0 p1 p2 1).bind (fun q1 => some (q1.1, q1.2.1, q1.2.2.1, q1.2.2.2.1, q1.2.2.2.2.1, q1.2.2.2.2.2))

set_option maxHeartbeats 4000000 in
set_option maxRecDepth 100000 in
theorem c_X4_urge (l : Launch) (G : va_G) (cI cJ cZ cO cA : ClassId) (e : Nat × Nat) (aT : Nat) (aS : Nat → Nat) (aH : Nat → Nat) (aE : Nat → Nat) (aX : Nat → Nat) (aK : Nat → Nat → Nat) (sz : Nat) (pr : Nat → Int32) (pu : Nat → Int32) (ta : Nat → Int32) (se : Nat → Int32) (qu : Nat → Int32) (im : Nat → Int32) (su : Nat → Int64) (tc : Int32) (sc : Int32) (rc : Int32) (cn : Int32) (so : Int32) (hs : Nat → SV) (ol : Int32) (ct : Int32) (p0 : Int32) (p1 : Int32) (p2 : Int32) {res : Int32 × (Nat → Int32) × Int32 × (Nat → SV) × Int32 × Int32} (hf : f_X4_urge pr pu ta se im su tc sc cn so qu rc hs ol ct p0 p1 p2 = some res) : MetI l yX4_urge cX4_urge 4 .int ({ frames := 4, cells := 0, slots := 0, locals := 106 } : Room) [.ref aT, .int p0, .int p1, .int p2] G (ty5 cI cJ cZ cO cA) e (wT aT (aS 0) (aH 0) (aE 0) (aX 0) ++ (wS cI cJ aS pr pu ta se qu im su tc sc rc cn so ++ (wH cI cJ cO aH aK hs ol ct ++ ([] : va_W)))) (wT aT (aS 0) (aH 0) (aE 0) (aX 0) ++ (wS cI cJ aS pr pu ta se res.2.1 im su tc sc res.2.2.1 cn so ++ (wH cI cJ cO aH aK res.2.2.2.1 res.2.2.2.2.1 res.2.2.2.2.2 ++ ([] : va_W)))) sz res.1 := by
  refine g_body (QQ := fun A => (qI G (ty5 cI cJ cZ cO cA) A (wT aT (aS 0) (aH 0) (aE 0) (aX 0) ++ (wS cI cJ aS pr pu ta se res.2.1 im su tc sc res.2.2.1 cn so ++ (wH cI cJ cO aH aK res.2.2.2.1 res.2.2.2.2.1 res.2.2.2.2.2 ++ ([] : va_W)))) res.1)) (own := RX4) (by decide) rfl (Nat.le_of_ble_eq_true rfl) ?_
  intro p ev s m below meth c A ls hx hb hr hml hown hts hlk hA hP hD hS hK hE hl
  have hl : lv_has ls 4 [(0, .ref aT), (1, .int p0), (2, .int p1), (3, .int p2)] := hl
  show W p l ev ({ frames := 4, cells := 0, slots := 0, locals := 106 } : Room) s m ([.ref aT, .int p0, .int p1, .int p2] : List Value).toArray below meth c s.heap [] 0 0 (MQ below (qI G (ty5 cI cJ cZ cO cA) A (wT aT (aS 0) (aH 0) (aE 0) (aX 0) ++ (wS cI cJ aS pr pu ta se res.2.1 im su tc sc res.2.2.1 cn so ++ (wH cI cJ cO aH aK res.2.2.2.1 res.2.2.2.2.1 res.2.2.2.2.2 ++ ([] : va_W)))) res.1) ([.ref aT, .int p0, .int p1, .int p2] : List Value).toArray s 0 0 A) (F0 m 0 ls [])
  have h := hf
  unfold f_X4_urge at h
  refine lv_aload_n hx hb dX4_urge_0 rfl (lv_at hl 0 rfl) ?_
  refine lv_iload_n hx hb dX4_urge_1 rfl (lv_at hl 1 rfl) ?_
  refine lv_iload_n hx hb dX4_urge_2 rfl (lv_at hl 2 rfl) ?_
  refine lv_iload_n hx hb dX4_urge_3 rfl (lv_at hl 3 rfl) ?_
  refine lv_iconst (v := 1) hx hb dX4_urge_4 (by decide) ?_
  obtain ⟨q1, hq1, h⟩ := bd_s h
  refine kVi (n := 4) (C := RX4) (ws' := wT aT (aS 0) (aH 0) (aE 0) (aX 0) ++ (wS cI cJ aS pr pu ta se q1.2.1 im su tc sc q1.2.2.1 cn so ++ (wH cI cJ cO aH aK q1.2.2.2.1 q1.2.2.2.2.1 q1.2.2.2.2.2 ++ ([] : va_W)))) (As := [.int p0, .int p1, .int p2, .int 1]) (rest := []) hx hb hml hown hts (c_X4_putRequest l G cI cJ cZ cO cA e aT aS aH aE aX aK _ pr pu ta se qu im su tc sc rc cn so hs ol ct p0 p1 p2 1 hq1) (tb_V kw571 kw573 kv13 kw1 kw574) rfl rfl (by decide +kernel) ⟨Nat.le_of_ble_eq_true rfl, Nat.le_of_ble_eq_true rfl⟩ hK hP hD hS hA hE 0 rfl rfl [0, 1, 2, 3, 4, 5, 6, 7, 8, 9, 10, 11, 12, 13, 14, 15, 16, 17, 18, 19, 20, 21, 22, 23, 24, 25, 26, 27, 28, 29, 30, 31, 32, 33, 34, 35, 36, 37, 38, 39, 40, 41, 42, 43, 44, 45, 46, 47, 48, 49, 50] [] rfl rfl rfl 51 ⟨rfl, rfl⟩ (by decide +kernel) (by decide +kernel) rfl rfl hl.1 (Nat.le_of_ble_eq_true rfl) ⟨Nat.zero_le _, Nat.zero_le _⟩ dX4_urge_5 (fun H locs hP hD hS => ?_)
  rw [← Option.some.inj h]
  exact kri hx hb hr hlk rfl rfl hP hD hS hK dX4_urge_8

/-! X4_isPlace -/
def f_X4_isPlace (rc : Int32) (p0 : Int32) : Option (Int32) :=
  (f_X4_isWithin p0 0 (rc - 1)).bind (fun q1 => gd (zb q1) (some q1))

set_option maxHeartbeats 4000000 in
set_option maxRecDepth 100000 in
theorem c_X4_isPlace (l : Launch) (G : va_G) (cI cJ cZ cO cA : ClassId) (e : Nat × Nat) (aT : Nat) (aS : Nat → Nat) (aH : Nat → Nat) (aE : Nat → Nat) (aX : Nat → Nat) (sz : Nat) (pr : Nat → Int32) (pu : Nat → Int32) (ta : Nat → Int32) (se : Nat → Int32) (qu : Nat → Int32) (im : Nat → Int32) (su : Nat → Int64) (tc : Int32) (sc : Int32) (rc : Int32) (cn : Int32) (so : Int32) (p0 : Int32) {res : Int32} (hf : f_X4_isPlace rc p0 = some res) : MetI l yX4_isPlace cX4_isPlace 2 .boolean ({ frames := 1, cells := 0, slots := 0, locals := 22 } : Room) [.ref aT, .int p0] G (ty5 cI cJ cZ cO cA) e (wT aT (aS 0) (aH 0) (aE 0) (aX 0) ++ (wS cI cJ aS pr pu ta se qu im su tc sc rc cn so ++ ([] : va_W))) (wT aT (aS 0) (aH 0) (aE 0) (aX 0) ++ (wS cI cJ aS pr pu ta se qu im su tc sc rc cn so ++ ([] : va_W))) sz res := by
  refine g_body (QQ := fun A => (qI G (ty5 cI cJ cZ cO cA) A (wT aT (aS 0) (aH 0) (aE 0) (aX 0) ++ (wS cI cJ aS pr pu ta se qu im su tc sc rc cn so ++ ([] : va_W))) res)) (own := RX4) (by decide) rfl (Nat.le_of_ble_eq_true rfl) ?_
  intro p ev s m below meth c A ls hx hb hr hml hown hts hlk hA hP hD hS hK hE hl
  have hl : lv_has ls 2 [(0, .ref aT), (1, .int p0)] := hl
  show W p l ev ({ frames := 1, cells := 0, slots := 0, locals := 22 } : Room) s m ([.ref aT, .int p0] : List Value).toArray below meth c s.heap [] 0 0 (MQ below (qI G (ty5 cI cJ cZ cO cA) A (wT aT (aS 0) (aH 0) (aE 0) (aX 0) ++ (wS cI cJ aS pr pu ta se qu im su tc sc rc cn so ++ ([] : va_W))) res) ([.ref aT, .int p0] : List Value).toArray s 0 0 A) (F0 m 0 ls [])
  have h := hf
  unfold f_X4_isPlace at h
  refine lv_iload_n hx hb dX4_isPlace_0 rfl (lv_at hl 1 rfl) ?_
  refine lv_iconst (v := 0) hx hb dX4_isPlace_1 (by decide) ?_
  refine lv_aload_n hx hb dX4_isPlace_2 rfl (lv_at hl 0 rfl) ?_
  refine va_get (D := G) (ci := 4) (v := .ref (aS 0)) (C := RX4) (T := TX4) (N := 4) hx hb hts uX4 hown hK hP 0 rfl rfl 0 (by decide) (hts _ kw165) (fun _ h9 => h9) rfl dX4_isPlace_3 ?_
  refine va_getN (D := G) (ci := 2) (v := .int rc) (C := RX2) (T := TX2) (N := 12) hx hb hts uX2 hown hK hP 1 rfl rfl 9 (by decide) (hE.nw nk46) (fun _ h9 => h9) rfl dX4_isPlace_6 ?_
  refine lv_iconst (v := 1) hx hb dX4_isPlace_9 (by decide) ?_
  refine lv_isub hx hb dX4_isPlace_10 ?_
  obtain ⟨q1, hq1, h⟩ := bd_s h
  refine kSi (n := 3) (As := [.int p0, .int 0, .int (rc - 1)]) (rest := []) hx hb hml hown hts (c_X4_isWithin l G cI cJ cZ cO cA e _ p0 0 (rc - 1) hq1) (tb_S kw185 kw186 kw1 kw187) rfl rfl (by decide +kernel) ⟨Nat.le_of_ble_eq_true rfl, Nat.le_of_ble_eq_true rfl⟩ hK hP hD hS hA hE rfl rfl hl.1 (Nat.le_of_ble_eq_true rfl) ⟨Nat.zero_le _, Nat.zero_le _⟩ dX4_isPlace_11 (fun H locs hP hD hS => ?_)
  obtain ⟨g2, h⟩ := gd_s h
  rw [← Option.some.inj h]
  exact kri hx hb hr hlk (zb_s g2) rfl hP hD hS hK dX4_isPlace_14

/-! X2_removeRequest -/
def f_X2_removeRequest (qu : Nat → Int32) (rc : Int32) (p0 : Int32) : Option ((Nat → Int32) × Int32) :=
  gd (cpk ((p0 + 1) * 3) (p0 * 3) ((rc * 3) - ((p0 + 1) * 3)) 30 30) (some ((va_cpy qu qu ((p0 + 1) * 3).toNatClampNeg (p0 * 3).toNatClampNeg ((rc * 3) - ((p0 + 1) * 3)).toNatClampNeg), (rc - 1)))

set_option maxHeartbeats 4000000 in
set_option maxRecDepth 100000 in
theorem c_X2_removeRequest (l : Launch) (G : va_G) (cI cJ cZ cO cA : ClassId) (e : Nat × Nat) (aS : Nat → Nat) (sz : Nat) (pr : Nat → Int32) (pu : Nat → Int32) (ta : Nat → Int32) (se : Nat → Int32) (qu : Nat → Int32) (im : Nat → Int32) (su : Nat → Int64) (tc : Int32) (sc : Int32) (rc : Int32) (cn : Int32) (so : Int32) (p0 : Int32) {res : (Nat → Int32) × Int32} (hf : f_X2_removeRequest qu rc p0 = some res) : MetV l yX2_removeRequest cX2_removeRequest 3 ({ frames := 1, cells := 0, slots := 0, locals := 40 } : Room) [.ref (aS 0), .int p0] G (ty5 cI cJ cZ cO cA) e (wS cI cJ aS pr pu ta se qu im su tc sc rc cn so ++ ([] : va_W)) (wS cI cJ aS pr pu ta se res.1 im su tc sc res.2 cn so ++ ([] : va_W)) sz := by
  refine g_body (QQ := fun A => (qV G (ty5 cI cJ cZ cO cA) A (wS cI cJ aS pr pu ta se res.1 im su tc sc res.2 cn so ++ ([] : va_W)))) (own := RX2) (by decide) rfl (Nat.le_of_ble_eq_true rfl) ?_
  intro p ev s m below meth c A ls hx hb hr hml hown hts hlk hA hP hD hS hK hE hl
  have hl : lv_has ls 3 [(0, .ref (aS 0)), (1, .int p0)] := hl
  show W p l ev ({ frames := 1, cells := 0, slots := 0, locals := 40 } : Room) s m ([.ref (aS 0), .int p0] : List Value).toArray below meth c s.heap [] 0 0 (MQ below (qV G (ty5 cI cJ cZ cO cA) A (wS cI cJ aS pr pu ta se res.1 im su tc sc res.2 cn so ++ ([] : va_W))) ([.ref (aS 0), .int p0] : List Value).toArray s 0 0 A) (F0 m 0 ls [])
  have h := hf
  unfold f_X2_removeRequest at h
  refine lv_iload_n hx hb dX2_removeRequest_0 rfl (lv_at hl 1 rfl) ?_
  refine lv_iconst (v := 1) hx hb dX2_removeRequest_1 (by decide) ?_
  refine lv_iadd hx hb dX2_removeRequest_2 ?_
  refine lv_iconst (v := 3) hx hb dX2_removeRequest_3 (by decide) ?_
  refine lv_imul hx hb dX2_removeRequest_4 ?_
  refine lv_istore_n (lv' := [(2, .int ((p0 + 1) * 3)), (0, .ref (aS 0)), (1, .int p0)]) hx hb dX2_removeRequest_5 rfl hl (by decide) rfl (fun ls hl => ?_)
  refine lv_aload_n hx hb dX2_removeRequest_6 rfl (lv_at hl 1 rfl) ?_
  refine va_get (D := G) (ci := 2) (v := .ref (aS 5)) (C := RX2) (T := TX2) (N := 12) hx hb hts uX2 hown hK hP 0 rfl rfl 4 (by decide) (hts _ kw34) (fun _ h9 => h9) rfl dX2_removeRequest_7 ?_
  refine lv_iload_n hx hb dX2_removeRequest_10 rfl (lv_at hl 0 rfl) ?_
  refine lv_aload_n hx hb dX2_removeRequest_11 rfl (lv_at hl 1 rfl) ?_
  refine va_get (D := G) (ci := 2) (v := .ref (aS 5)) (C := RX2) (T := TX2) (N := 12) hx hb hts uX2 hown hK hP 0 rfl rfl 4 (by decide) (hts _ kw34) (fun _ h9 => h9) rfl dX2_removeRequest_12 ?_
  refine lv_iload_n hx hb dX2_removeRequest_15 rfl (lv_at hl 2 rfl) ?_
  refine lv_iconst (v := 3) hx hb dX2_removeRequest_16 (by decide) ?_
  refine lv_imul hx hb dX2_removeRequest_17 ?_
  refine lv_aload_n hx hb dX2_removeRequest_18 rfl (lv_at hl 1 rfl) ?_
  refine va_get (D := G) (ci := 2) (v := .int rc) (C := RX2) (T := TX2) (N := 12) hx hb hts uX2 hown hK hP 0 rfl rfl 9 (by decide) (hts _ kw45) (fun _ h9 => h9) rfl dX2_removeRequest_19 ?_
  refine lv_iconst (v := 3) hx hb dX2_removeRequest_22 (by decide) ?_
  refine lv_imul hx hb dX2_removeRequest_23 ?_
  refine lv_iload_n hx hb dX2_removeRequest_24 rfl (lv_at hl 0 rfl) ?_
  refine lv_isub hx hb dX2_removeRequest_25 ?_
  obtain ⟨g1, h⟩ := gd_s h
  have k1 := cpk_s g1
  refine va_copyi hx hb (hml.trans hl.1.symm) hown (hts _ kw202) (hts _ kw204) (hts _ kw203) (hts _ kw7) hK hP hD hS 5 5 0 0 rfl rfl rfl rfl rfl k1.1 k1.2.1 k1.2.2.1 k1.2.2.2.1 k1.2.2.2.2 (fun _ _ => rfl) (Nat.le_of_ble_eq_true rfl) (Nat.le_of_ble_eq_true rfl) dX2_removeRequest_26 (fun H locs hP hD hS => ?_)
  have hP : va_P G vwCl (wS cI cJ aS pr pu ta se (va_cpy qu qu ((p0 + 1) * 3).toNatClampNeg (p0 * 3).toNatClampNeg ((rc * 3) - ((p0 + 1) * 3)).toNatClampNeg) im su tc sc rc cn so ++ ([] : va_W)) H := hP
  have hD : va_D A (wS cI cJ aS pr pu ta se (va_cpy qu qu ((p0 + 1) * 3).toNatClampNeg (p0 * 3).toNatClampNeg ((rc * 3) - ((p0 + 1) * 3)).toNatClampNeg) im su tc sc rc cn so ++ ([] : va_W)) := hD
  refine lv_aload_n hx hb dX2_removeRequest_29 rfl (lv_at hl 1 rfl) ?_
  refine lv_dup hx hb dX2_removeRequest_30 rfl ?_
  refine va_get (D := G) (ci := 2) (v := .int rc) (C := RX2) (T := TX2) (N := 12) hx hb hts uX2 hown hK hP 0 rfl rfl 9 (by decide) (hts _ kw45) (fun _ h9 => h9) rfl dX2_removeRequest_31 ?_
  refine lv_iconst (v := 1) hx hb dX2_removeRequest_34 (by decide) ?_
  refine lv_isub hx hb dX2_removeRequest_35 ?_
  refine va_put (D := G) (ci := 2) (ty := .int) (v := .int (rc - 1)) (C := RX2) (T := TX2) (N := 12) hx hb hts uX2 tyX2 tyX2_ok nmX2 hown hK hP hD hS 0 rfl rfl 9 (by decide) (hts _ kw45) (fun _ h9 => h9) rfl (by decide +kernel) rfl rfl (Nat.le_of_ble_eq_true rfl) dX2_removeRequest_36 (fun H locs hP hD hS => ?_)
  have hP : va_P G vwCl (wS cI cJ aS pr pu ta se (va_cpy qu qu ((p0 + 1) * 3).toNatClampNeg (p0 * 3).toNatClampNeg ((rc * 3) - ((p0 + 1) * 3)).toNatClampNeg) im su tc sc (rc - 1) cn so ++ ([] : va_W)) H := hP
  have hD : va_D A (wS cI cJ aS pr pu ta se (va_cpy qu qu ((p0 + 1) * 3).toNatClampNeg (p0 * 3).toNatClampNeg ((rc * 3) - ((p0 + 1) * 3)).toNatClampNeg) im su tc sc (rc - 1) cn so ++ ([] : va_W)) := hD
  rw [← Option.some.inj h]
  exact krv hx hb hr hlk hP hD hS hK dX2_removeRequest_39

/-! X4_cancel -/
def f_X4_cancel (pr : Nat → Int32) (pu : Nat → Int32) (ta : Nat → Int32) (se : Nat → Int32) (im : Nat → Int32) (su : Nat → Int64) (tc : Int32) (sc : Int32) (cn : Int32) (so : Int32) (qu : Nat → Int32) (rc : Int32) (hs : Nat → SV) (ol : Int32) (ct : Int32) (p0 : Int32) : Option (Int32 × (Nat → Int32) × Int32 × (Nat → SV) × Int32 × Int32) :=
  (f_X4_isPlace rc p0).bind (fun q1 => if q1 = 0 then (some ((-2000000001), qu, rc, hs, ol, ct)) else ((f_X0_keep pr pu ta se qu im su tc sc rc cn so hs ol ct).bind (fun q3 => (f_X2_removeRequest qu rc p0).bind (fun q4 => some (q4.2, q4.1, q4.2, q3.1, q3.2.1, q3.2.2)))))

set_option maxHeartbeats 4000000 in
set_option maxRecDepth 100000 in
theorem c_X4_cancel (l : Launch) (G : va_G) (cI cJ cZ cO cA : ClassId) (e : Nat × Nat) (aT : Nat) (aS : Nat → Nat) (aH : Nat → Nat) (aE : Nat → Nat) (aX : Nat → Nat) (aK : Nat → Nat → Nat) (sz : Nat) (pr : Nat → Int32) (pu : Nat → Int32) (ta : Nat → Int32) (se : Nat → Int32) (qu : Nat → Int32) (im : Nat → Int32) (su : Nat → Int64) (tc : Int32) (sc : Int32) (rc : Int32) (cn : Int32) (so : Int32) (hs : Nat → SV) (ol : Int32) (ct : Int32) (p0 : Int32) {res : Int32 × (Nat → Int32) × Int32 × (Nat → SV) × Int32 × Int32} (hf : f_X4_cancel pr pu ta se im su tc sc cn so qu rc hs ol ct p0 = some res) : MetI l yX4_cancel cX4_cancel 2 .int ({ frames := 3, cells := 0, slots := 0, locals := 82 } : Room) [.ref aT, .int p0] G (ty5 cI cJ cZ cO cA) e (wT aT (aS 0) (aH 0) (aE 0) (aX 0) ++ (wS cI cJ aS pr pu ta se qu im su tc sc rc cn so ++ (wH cI cJ cO aH aK hs ol ct ++ ([] : va_W)))) (wT aT (aS 0) (aH 0) (aE 0) (aX 0) ++ (wS cI cJ aS pr pu ta se res.2.1 im su tc sc res.2.2.1 cn so ++ (wH cI cJ cO aH aK res.2.2.2.1 res.2.2.2.2.1 res.2.2.2.2.2 ++ ([] : va_W)))) sz res.1 := by
  refine g_body (QQ := fun A => (qI G (ty5 cI cJ cZ cO cA) A (wT aT (aS 0) (aH 0) (aE 0) (aX 0) ++ (wS cI cJ aS pr pu ta se res.2.1 im su tc sc res.2.2.1 cn so ++ (wH cI cJ cO aH aK res.2.2.2.1 res.2.2.2.2.1 res.2.2.2.2.2 ++ ([] : va_W)))) res.1)) (own := RX4) (by decide) rfl (Nat.le_of_ble_eq_true rfl) ?_
  intro p ev s m below meth c A ls hx hb hr hml hown hts hlk hA hP hD hS hK hE hl
  have hl : lv_has ls 2 [(0, .ref aT), (1, .int p0)] := hl
  show W p l ev ({ frames := 3, cells := 0, slots := 0, locals := 82 } : Room) s m ([.ref aT, .int p0] : List Value).toArray below meth c s.heap [] 0 0 (MQ below (qI G (ty5 cI cJ cZ cO cA) A (wT aT (aS 0) (aH 0) (aE 0) (aX 0) ++ (wS cI cJ aS pr pu ta se res.2.1 im su tc sc res.2.2.1 cn so ++ (wH cI cJ cO aH aK res.2.2.2.1 res.2.2.2.2.1 res.2.2.2.2.2 ++ ([] : va_W)))) res.1) ([.ref aT, .int p0] : List Value).toArray s 0 0 A) (F0 m 0 ls [])
  have h := hf
  unfold f_X4_cancel at h
  refine lv_aload_n hx hb dX4_cancel_0 rfl (lv_at hl 0 rfl) ?_
  refine lv_iload_n hx hb dX4_cancel_1 rfl (lv_at hl 1 rfl) ?_
  obtain ⟨q1, hq1, h⟩ := bd_s h
  refine kVi (n := 1) (C := RX4) (ws' := wT aT (aS 0) (aH 0) (aE 0) (aX 0) ++ (wS cI cJ aS pr pu ta se qu im su tc sc rc cn so ++ (wH cI cJ cO aH aK hs ol ct ++ ([] : va_W)))) (As := [.int p0]) (rest := []) hx hb hml hown hts (c_X4_isPlace l G cI cJ cZ cO cA e aT aS aH aE aX _ pr pu ta se qu im su tc sc rc cn so p0 hq1) (tb_V kw511 kw513 kv12 kw1 kw514) rfl rfl (by decide +kernel) ⟨Nat.le_of_ble_eq_true rfl, Nat.le_of_ble_eq_true rfl⟩ hK hP hD hS hA hE 0 rfl rfl [0, 1, 2, 3, 4, 5, 6, 7, 8] [9, 10, 11, 12, 13, 14, 15, 16, 17, 18, 19, 20, 21, 22, 23, 24, 25, 26, 27, 28, 29, 30, 31, 32, 33, 34, 35, 36, 37, 38, 39, 40, 41, 42, 43, 44, 45, 46, 47, 48, 49, 50] rfl rfl rfl 51 ⟨rfl, rfl⟩ (by decide +kernel) (by decide +kernel) rfl rfl hl.1 (Nat.le_of_ble_eq_true rfl) ⟨Nat.zero_le _, Nat.zero_le _⟩ dX4_cancel_2 (fun H locs hP hD hS => ?_)
  refine lv_if_ne (tgt := 11) hx hb dX4_cancel_5 (by decide) (fun c2 => ?_) (fun c2 => ?_)
  · replace h := (if_neg c2).symm.trans h
    refine lv_aload_n hx hb dX4_cancel_11 rfl (lv_at hl 0 rfl) ?_
    refine va_get (D := G) (ci := 4) (v := .ref (aH 0)) (C := RX4) (T := TX4) (N := 4) hx hb hts uX4 hown hK hP 0 rfl rfl 1 (by decide) (hts _ kw166) (fun _ h9 => h9) rfl dX4_cancel_12 ?_
    refine lv_aload_n hx hb dX4_cancel_15 rfl (lv_at hl 0 rfl) ?_
    refine va_get (D := G) (ci := 4) (v := .ref (aS 0)) (C := RX4) (T := TX4) (N := 4) hx hb hts uX4 hown hK hP 0 rfl rfl 0 (by decide) (hts _ kw165) (fun _ h9 => h9) rfl dX4_cancel_16 ?_
    obtain ⟨q3, hq3, h⟩ := bd_s h
    refine kVv (n := 1) (C := RX0) (ws' := wT aT (aS 0) (aH 0) (aE 0) (aX 0) ++ (wS cI cJ aS pr pu ta se qu im su tc sc rc cn so ++ (wH cI cJ cO aH aK q3.1 q3.2.1 q3.2.2 ++ ([] : va_W)))) (As := [.ref (aS 0)]) (rest := []) hx hb hml hown hts (c_X0_keep l G cI cJ cZ cO cA e aS aH aK _ pr pu ta se qu im su tc sc rc cn so hs ol ct hq3) (tb_V kw194 kw195 kw196 kw4 kw197) rfl rfl (by decide +kernel) ⟨Nat.le_of_ble_eq_true rfl, Nat.le_of_ble_eq_true rfl⟩ hK hP hD hS hA hE 9 rfl rfl [1, 2, 3, 4, 5, 6, 7, 8, 9, 10, 11, 12, 13, 14, 15, 16, 17, 18, 19, 20, 21, 22, 23, 24, 25, 26, 27, 28, 29, 30, 31, 32, 33, 34, 35, 36, 37, 38, 39, 40, 41, 42, 43, 44, 45, 46, 47, 48, 49, 50] [0] rfl rfl rfl 51 ⟨rfl, rfl⟩ (by decide +kernel) (by decide +kernel) rfl rfl hl.1 (Nat.le_of_ble_eq_true rfl) ⟨Nat.zero_le _, Nat.zero_le _⟩ dX4_cancel_19 (fun H locs hP hD hS => ?_)
    refine lv_aload_n hx hb dX4_cancel_22 rfl (lv_at hl 0 rfl) ?_
    refine va_get (D := G) (ci := 4) (v := .ref (aS 0)) (C := RX4) (T := TX4) (N := 4) hx hb hts uX4 hown hK hP 0 rfl rfl 0 (by decide) (hts _ kw165) (fun _ h9 => h9) rfl dX4_cancel_23 ?_
    refine lv_iload_n hx hb dX4_cancel_26 rfl (lv_at hl 1 rfl) ?_
    obtain ⟨q4, hq4, h⟩ := bd_s h
    refine kVv (n := 1) (C := RX2) (ws' := wT aT (aS 0) (aH 0) (aE 0) (aX 0) ++ (wS cI cJ aS pr pu ta se q4.1 im su tc sc q4.2 cn so ++ (wH cI cJ cO aH aK q3.1 q3.2.1 q3.2.2 ++ ([] : va_W)))) (As := [.int p0]) (rest := []) hx hb hml hown hts (c_X2_removeRequest l G cI cJ cZ cO cA e aS _ pr pu ta se qu im su tc sc rc cn so p0 hq4) (tb_V kw566 kw365 kw366 kw2 kw367) rfl rfl (by decide +kernel) ⟨Nat.le_of_ble_eq_true rfl, Nat.le_of_ble_eq_true rfl⟩ hK hP hD hS hA hE 1 rfl rfl [1, 2, 3, 4, 5, 6, 7, 8] [0, 9, 10, 11, 12, 13, 14, 15, 16, 17, 18, 19, 20, 21, 22, 23, 24, 25, 26, 27, 28, 29, 30, 31, 32, 33, 34, 35, 36, 37, 38, 39, 40, 41, 42, 43, 44, 45, 46, 47, 48, 49, 50] rfl rfl rfl 51 ⟨rfl, rfl⟩ (by decide +kernel) (by decide +kernel) rfl rfl hl.1 (Nat.le_of_ble_eq_true rfl) ⟨Nat.zero_le _, Nat.zero_le _⟩ dX4_cancel_27 (fun H locs hP hD hS => ?_)
    refine lv_aload_n hx hb dX4_cancel_30 rfl (lv_at hl 0 rfl) ?_
    refine va_get (D := G) (ci := 4) (v := .ref (aS 0)) (C := RX4) (T := TX4) (N := 4) hx hb hts uX4 hown hK hP 0 rfl rfl 0 (by decide) (hts _ kw165) (fun _ h9 => h9) rfl dX4_cancel_31 ?_
    refine va_getN (D := G) (ci := 2) (v := .int q4.2) (C := RX2) (T := TX2) (N := 12) hx hb hts uX2 hown hK hP 1 rfl rfl 9 (by decide) (hE.nw nk46) (fun _ h9 => h9) rfl dX4_cancel_34 ?_
    rw [← Option.some.inj h]
    exact kri hx hb hr hlk rfl rfl hP hD hS hK dX4_cancel_37
  · replace h := (if_pos c2).symm.trans h
    refine lv_ldc (v := (-2000000001)) hx hb hown (hts _ kw188) dX4_cancel_8 ?_
    rw [← Option.some.inj h]
    exact kri hx hb hr hlk rfl rfl hP hD hS hK dX4_cancel_10

/-! X4_queued -/
def f_X4_queued (rc : Int32) : Option (Int32) :=
  some rc

set_option maxHeartbeats 4000000 in
set_option maxRecDepth 100000 in
theorem c_X4_queued (l : Launch) (G : va_G) (cI cJ cZ cO cA : ClassId) (e : Nat × Nat) (aT : Nat) (aS : Nat → Nat) (aH : Nat → Nat) (aE : Nat → Nat) (aX : Nat → Nat) (sz : Nat) (pr : Nat → Int32) (pu : Nat → Int32) (ta : Nat → Int32) (se : Nat → Int32) (qu : Nat → Int32) (im : Nat → Int32) (su : Nat → Int64) (tc : Int32) (sc : Int32) (rc : Int32) (cn : Int32) (so : Int32) {res : Int32} (hf : f_X4_queued rc = some res) : MetI l yX4_queued cX4_queued 1 .int ({ frames := 0, cells := 0, slots := 0, locals := 0 } : Room) [.ref aT] G (ty5 cI cJ cZ cO cA) e (wT aT (aS 0) (aH 0) (aE 0) (aX 0) ++ (wS cI cJ aS pr pu ta se qu im su tc sc rc cn so ++ ([] : va_W))) (wT aT (aS 0) (aH 0) (aE 0) (aX 0) ++ (wS cI cJ aS pr pu ta se qu im su tc sc rc cn so ++ ([] : va_W))) sz res := by
  refine g_body (QQ := fun A => (qI G (ty5 cI cJ cZ cO cA) A (wT aT (aS 0) (aH 0) (aE 0) (aX 0) ++ (wS cI cJ aS pr pu ta se qu im su tc sc rc cn so ++ ([] : va_W))) res)) (own := RX4) (by decide) rfl (Nat.le_of_ble_eq_true rfl) ?_
  intro p ev s m below meth c A ls hx hb hr hml hown hts hlk hA hP hD hS hK hE hl
  have hl : lv_has ls 1 [(0, .ref aT)] := hl
  show W p l ev ({ frames := 0, cells := 0, slots := 0, locals := 0 } : Room) s m ([.ref aT] : List Value).toArray below meth c s.heap [] 0 0 (MQ below (qI G (ty5 cI cJ cZ cO cA) A (wT aT (aS 0) (aH 0) (aE 0) (aX 0) ++ (wS cI cJ aS pr pu ta se qu im su tc sc rc cn so ++ ([] : va_W))) res) ([.ref aT] : List Value).toArray s 0 0 A) (F0 m 0 ls [])
  have h := hf
  unfold f_X4_queued at h
  refine lv_aload_n hx hb dX4_queued_0 rfl (lv_at hl 0 rfl) ?_
  refine va_get (D := G) (ci := 4) (v := .ref (aS 0)) (C := RX4) (T := TX4) (N := 4) hx hb hts uX4 hown hK hP 0 rfl rfl 0 (by decide) (hts _ kw165) (fun _ h9 => h9) rfl dX4_queued_1 ?_
  refine va_getN (D := G) (ci := 2) (v := .int rc) (C := RX2) (T := TX2) (N := 12) hx hb hts uX2 hown hK hP 1 rfl rfl 9 (by decide) (hE.nw nk46) (fun _ h9 => h9) rfl dX4_queued_4 ?_
  rw [← Option.some.inj h]
  exact kri hx hb hr hlk rfl rfl hP hD hS hK dX4_queued_7

/-! X4_requested -/
def f_X4_requested_j15 : Option (Int32) :=
  some (-2000000001)
def f_X4_requested (qu : Nat → Int32) (rc : Int32) (p0 : Int32) (p1 : Int32) : Option (Int32) :=
  (f_X4_isPlace rc p0).bind (fun q1 => if q1 = 0 then (f_X4_requested_j15) else ((f_X4_isPart p1).bind (fun q4 => if q4 = 0 then (f_X4_requested_j15) else (gd (ib ((p0 * 3) + p1) 30) (some (qu ((p0 * 3) + p1).toNatClampNeg))))))

set_option maxHeartbeats 4000000 in
set_option maxRecDepth 100000 in
theorem c_X4_requested (l : Launch) (G : va_G) (cI cJ cZ cO cA : ClassId) (e : Nat × Nat) (aT : Nat) (aS : Nat → Nat) (aH : Nat → Nat) (aE : Nat → Nat) (aX : Nat → Nat) (sz : Nat) (pr : Nat → Int32) (pu : Nat → Int32) (ta : Nat → Int32) (se : Nat → Int32) (qu : Nat → Int32) (im : Nat → Int32) (su : Nat → Int64) (tc : Int32) (sc : Int32) (rc : Int32) (cn : Int32) (so : Int32) (p0 : Int32) (p1 : Int32) {res : Int32} (hf : f_X4_requested qu rc p0 p1 = some res) : MetI l yX4_requested cX4_requested 3 .int ({ frames := 2, cells := 0, slots := 0, locals := 43 } : Room) [.ref aT, .int p0, .int p1] G (ty5 cI cJ cZ cO cA) e (wT aT (aS 0) (aH 0) (aE 0) (aX 0) ++ (wS cI cJ aS pr pu ta se qu im su tc sc rc cn so ++ ([] : va_W))) (wT aT (aS 0) (aH 0) (aE 0) (aX 0) ++ (wS cI cJ aS pr pu ta se qu im su tc sc rc cn so ++ ([] : va_W))) sz res := by
  refine g_body (QQ := fun A => (qI G (ty5 cI cJ cZ cO cA) A (wT aT (aS 0) (aH 0) (aE 0) (aX 0) ++ (wS cI cJ aS pr pu ta se qu im su tc sc rc cn so ++ ([] : va_W))) res)) (own := RX4) (by decide) rfl (Nat.le_of_ble_eq_true rfl) ?_
  intro p ev s m below meth c A ls hx hb hr hml hown hts hlk hA hP hD hS hK hE hl
  have hl : lv_has ls 3 [(0, .ref aT), (1, .int p0), (2, .int p1)] := hl
  show W p l ev ({ frames := 2, cells := 0, slots := 0, locals := 43 } : Room) s m ([.ref aT, .int p0, .int p1] : List Value).toArray below meth c s.heap [] 0 0 (MQ below (qI G (ty5 cI cJ cZ cO cA) A (wT aT (aS 0) (aH 0) (aE 0) (aX 0) ++ (wS cI cJ aS pr pu ta se qu im su tc sc rc cn so ++ ([] : va_W))) res) ([.ref aT, .int p0, .int p1] : List Value).toArray s 0 0 A) (F0 m 0 ls [])
  have h := hf
  unfold f_X4_requested at h
  refine lv_aload_n hx hb dX4_requested_0 rfl (lv_at hl 0 rfl) ?_
  refine lv_iload_n hx hb dX4_requested_1 rfl (lv_at hl 1 rfl) ?_
  obtain ⟨q1, hq1, h⟩ := bd_s h
  refine kVi (n := 1) (C := RX4) (ws' := wT aT (aS 0) (aH 0) (aE 0) (aX 0) ++ (wS cI cJ aS pr pu ta se qu im su tc sc rc cn so ++ ([] : va_W))) (As := [.int p0]) (rest := []) hx hb hml hown hts (c_X4_isPlace l G cI cJ cZ cO cA e aT aS aH aE aX _ pr pu ta se qu im su tc sc rc cn so p0 hq1) (tb_V kw511 kw513 kv12 kw1 kw514) rfl rfl (by decide +kernel) ⟨Nat.le_of_ble_eq_true rfl, Nat.le_of_ble_eq_true rfl⟩ hK hP hD hS hA hE 0 rfl rfl [0, 1, 2, 3, 4, 5, 6, 7, 8] [] rfl rfl rfl 9 ⟨rfl, rfl⟩ (by decide +kernel) (by decide +kernel) rfl rfl hl.1 (Nat.le_of_ble_eq_true rfl) ⟨Nat.zero_le _, Nat.zero_le _⟩ dX4_requested_2 (fun H locs hP hD hS => ?_)
  have hJ3 : ∀ (H : Heap) (locs : List Loc) (ls : Array Slot), f_X4_requested_j15 = some res → va_P G vwCl (wT aT (aS 0) (aH 0) (aE 0) (aX 0) ++ (wS cI cJ aS pr pu ta se qu im su tc sc rc cn so ++ ([] : va_W))) H → va_D A (wT aT (aS 0) (aH 0) (aE 0) (aX 0) ++ (wS cI cJ aS pr pu ta se qu im su tc sc rc cn so ++ ([] : va_W))) → va_S A s.heap H locs → lv_has ls 3 [] → W p l ev ({ frames := 2, cells := 0, slots := 0, locals := 43 } : Room) s m ([.ref aT, .int p0, .int p1] : List Value).toArray below meth c H locs 0 0 (MQ below (qI G (ty5 cI cJ cZ cO cA) A (wT aT (aS 0) (aH 0) (aE 0) (aX 0) ++ (wS cI cJ aS pr pu ta se qu im su tc sc rc cn so ++ ([] : va_W))) res) ([.ref aT, .int p0, .int p1] : List Value).toArray s 0 0 A) (F0 m 15 ls []) := by
    intro H locs ls h hP hD hS hl
    unfold f_X4_requested_j15 at h
    refine lv_ldc (v := (-2000000001)) hx hb hown (hts _ kw188) dX4_requested_15 ?_
    rw [← Option.some.inj h]
    exact kri hx hb hr hlk rfl rfl hP hD hS hK dX4_requested_17
  refine lv_if_eq (tgt := 15) hx hb dX4_requested_5 (by decide) (fun c2 => ?_) (fun c2 => ?_)
  · replace h := (if_pos c2).symm.trans h
    exact hJ3  _ _ _ h hP hD hS (lv_sub hl [] rfl)
  · replace h := (if_neg c2).symm.trans h
    refine lv_iload_n hx hb dX4_requested_8 rfl (lv_at hl 2 rfl) ?_
    obtain ⟨q4, hq4, h⟩ := bd_s h
    refine kSi (n := 1) (As := [.int p1]) (rest := []) hx hb hml hown hts (c_X4_isPart l G cI cJ cZ cO cA e _ p1 hq4) (tb_S kw396 kw397 kw1 kw398) rfl rfl (by decide +kernel) ⟨Nat.le_of_ble_eq_true rfl, Nat.le_of_ble_eq_true rfl⟩ hK hP hD hS hA hE rfl rfl hl.1 (Nat.le_of_ble_eq_true rfl) ⟨Nat.zero_le _, Nat.zero_le _⟩ dX4_requested_9 (fun H locs hP hD hS => ?_)
    refine lv_if_ne (tgt := 18) hx hb dX4_requested_12 (by decide) (fun c5 => ?_) (fun c5 => ?_)
    · replace h := (if_neg c5).symm.trans h
      refine lv_aload_n hx hb dX4_requested_18 rfl (lv_at hl 0 rfl) ?_
      refine va_get (D := G) (ci := 4) (v := .ref (aS 0)) (C := RX4) (T := TX4) (N := 4) hx hb hts uX4 hown hK hP 0 rfl rfl 0 (by decide) (hts _ kw165) (fun _ h9 => h9) rfl dX4_requested_19 ?_
      refine va_getN (D := G) (ci := 2) (v := .ref (aS 5)) (C := RX2) (T := TX2) (N := 12) hx hb hts uX2 hown hK hP 1 rfl rfl 4 (by decide) (hE.nw nk35) (fun _ h9 => h9) rfl dX4_requested_22 ?_
      refine lv_iload_n hx hb dX4_requested_25 rfl (lv_at hl 1 rfl) ?_
      refine lv_iconst (v := 3) hx hb dX4_requested_26 (by decide) ?_
      refine lv_imul hx hb dX4_requested_27 ?_
      refine lv_iload_n hx hb dX4_requested_28 rfl (lv_at hl 2 rfl) ?_
      refine lv_iadd hx hb dX4_requested_29 ?_
      obtain ⟨g6, h⟩ := gd_s h
      refine va_iald hx hb hK hP 6 0 rfl rfl (ib_in g6) dX4_requested_30 ?_
      rw [← Option.some.inj h]
      exact kri hx hb hr hlk rfl rfl hP hD hS hK dX4_requested_31
    · replace h := (if_pos c5).symm.trans h
      exact hJ3  _ _ _ h hP hD hS (lv_sub hl [] rfl)

/-! X2_impulsePart -/
def f_X2_impulsePart (im : Nat → Int32) (p0 : Int32) (p1 : Int32) : Option (Int32) :=
  gd (ib ((p0 * 3) + p1) 9) (some (im ((p0 * 3) + p1).toNatClampNeg))

set_option maxHeartbeats 4000000 in
set_option maxRecDepth 100000 in
theorem c_X2_impulsePart (l : Launch) (G : va_G) (cI cJ cZ cO cA : ClassId) (e : Nat × Nat) (aS : Nat → Nat) (sz : Nat) (pr : Nat → Int32) (pu : Nat → Int32) (ta : Nat → Int32) (se : Nat → Int32) (qu : Nat → Int32) (im : Nat → Int32) (su : Nat → Int64) (tc : Int32) (sc : Int32) (rc : Int32) (cn : Int32) (so : Int32) (p0 : Int32) (p1 : Int32) {res : Int32} (hf : f_X2_impulsePart im p0 p1 = some res) : MetI l yX2_impulsePart cX2_impulsePart 3 .int ({ frames := 0, cells := 0, slots := 0, locals := 0 } : Room) [.ref (aS 0), .int p0, .int p1] G (ty5 cI cJ cZ cO cA) e (wS cI cJ aS pr pu ta se qu im su tc sc rc cn so ++ ([] : va_W)) (wS cI cJ aS pr pu ta se qu im su tc sc rc cn so ++ ([] : va_W)) sz res := by
  refine g_body (QQ := fun A => (qI G (ty5 cI cJ cZ cO cA) A (wS cI cJ aS pr pu ta se qu im su tc sc rc cn so ++ ([] : va_W)) res)) (own := RX2) (by decide) rfl (Nat.le_of_ble_eq_true rfl) ?_
  intro p ev s m below meth c A ls hx hb hr hml hown hts hlk hA hP hD hS hK hE hl
  have hl : lv_has ls 3 [(0, .ref (aS 0)), (1, .int p0), (2, .int p1)] := hl
  show W p l ev ({ frames := 0, cells := 0, slots := 0, locals := 0 } : Room) s m ([.ref (aS 0), .int p0, .int p1] : List Value).toArray below meth c s.heap [] 0 0 (MQ below (qI G (ty5 cI cJ cZ cO cA) A (wS cI cJ aS pr pu ta se qu im su tc sc rc cn so ++ ([] : va_W)) res) ([.ref (aS 0), .int p0, .int p1] : List Value).toArray s 0 0 A) (F0 m 0 ls [])
  have h := hf
  unfold f_X2_impulsePart at h
  refine lv_aload_n hx hb dX2_impulsePart_0 rfl (lv_at hl 0 rfl) ?_
  refine va_get (D := G) (ci := 2) (v := .ref (aS 6)) (C := RX2) (T := TX2) (N := 12) hx hb hts uX2 hown hK hP 0 rfl rfl 5 (by decide) (hts _ kw36) (fun _ h9 => h9) rfl dX2_impulsePart_1 ?_
  refine lv_iload_n hx hb dX2_impulsePart_4 rfl (lv_at hl 1 rfl) ?_
  refine lv_iconst (v := 3) hx hb dX2_impulsePart_5 (by decide) ?_
  refine lv_imul hx hb dX2_impulsePart_6 ?_
  refine lv_iload_n hx hb dX2_impulsePart_7 rfl (lv_at hl 2 rfl) ?_
  refine lv_iadd hx hb dX2_impulsePart_8 ?_
  obtain ⟨g1, h⟩ := gd_s h
  refine va_iald hx hb hK hP 6 0 rfl rfl (ib_in g1) dX2_impulsePart_9 ?_
  rw [← Option.some.inj h]
  exact kri hx hb hr hlk rfl rfl hP hD hS hK dX2_impulsePart_10

/-! X2_ranTicks -/
def f_X2_ranTicks (p0 : Int32) (p1 : Int32) : Option (Int32) :=
  some (((p0 >>> (p1 &&& 31)) &&& 1) * 20)

set_option maxHeartbeats 4000000 in
set_option maxRecDepth 100000 in
theorem c_X2_ranTicks (l : Launch) (G : va_G) (cI cJ cZ cO cA : ClassId) (e : Nat × Nat) (sz : Nat) (p0 : Int32) (p1 : Int32) {res : Int32} (hf : f_X2_ranTicks p0 p1 = some res) : MetI l yX2_ranTicks cX2_ranTicks 2 .int ({ frames := 0, cells := 0, slots := 0, locals := 0 } : Room) [.int p0, .int p1] G (ty5 cI cJ cZ cO cA) e (([] : va_W)) (([] : va_W)) sz res := by
  refine g_body (QQ := fun A => (qI G (ty5 cI cJ cZ cO cA) A (([] : va_W)) res)) (own := RX2) (by decide) rfl (Nat.le_of_ble_eq_true rfl) ?_
  intro p ev s m below meth c A ls hx hb hr hml hown hts hlk hA hP hD hS hK hE hl
  have hl : lv_has ls 2 [(0, .int p0), (1, .int p1)] := hl
  show W p l ev ({ frames := 0, cells := 0, slots := 0, locals := 0 } : Room) s m ([.int p0, .int p1] : List Value).toArray below meth c s.heap [] 0 0 (MQ below (qI G (ty5 cI cJ cZ cO cA) A (([] : va_W)) res) ([.int p0, .int p1] : List Value).toArray s 0 0 A) (F0 m 0 ls [])
  have h := hf
  unfold f_X2_ranTicks at h
  refine lv_iload_n hx hb dX2_ranTicks_0 rfl (lv_at hl 0 rfl) ?_
  refine lv_iload_n hx hb dX2_ranTicks_1 rfl (lv_at hl 1 rfl) ?_
  refine lv_ishr hx hb dX2_ranTicks_2 ?_
  refine lv_iconst (v := 1) hx hb dX2_ranTicks_3 (by decide) ?_
  refine lv_iand hx hb dX2_ranTicks_4 ?_
  refine lv_bipush (v := 20) hx hb dX2_ranTicks_5 (by decide) ?_
  refine lv_imul hx hb dX2_ranTicks_7 ?_
  rw [← Option.some.inj h]
  exact kri hx hb hr hlk rfl rfl hP hD hS hK dX2_ranTicks_8

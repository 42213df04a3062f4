/-! X5_finds -/
def f_X5_finds_b17 (z1 : (Nat → Int64) × Int32) : Option (((Nat → Int64) × Int32) ⊕ ((Nat → Int64))) :=
  if 8 ≤ z1.2 then (some (Sum.inr z1.1)) else (gd (ib z1.2 8) (some (Sum.inl ((vp_updL z1.1 z1.2.toNatClampNeg 0), (z1.2 + 1)))))
def f_X5_finds_b106 (row : Nat → Int32) (goa : Nat → Int64) (v1 : Int32) (v2 : Int32) (z13 : (Nat → Int64) × (Nat → Int64) × (Nat → Int64) × Int64 × Int64 × Int32 × Int32) : Option (((Nat → Int64) × (Nat → Int64) × (Nat → Int64) × Int64 × Int64 × Int32 × Int32) ⊕ ((Nat → Int64) × (Nat → Int64) × (Nat → Int64) × Int64 × Int64 × Int32)) :=
  gd (ib 0 708) (if (row (0 : Int32).toNatClampNeg) ≤ z13.2.2.2.2.2.2 then (some (Sum.inr (z13.1, z13.2.1, z13.2.2.1, z13.2.2.2.1, z13.2.2.2.2.1, z13.2.2.2.2.2.1))) else ((f_X5_isUsable row v1).bind (fun q16 => if q16 = 0 then (some (Sum.inl (z13.1, z13.2.1, z13.2.2.1, z13.2.2.2.1, z13.2.2.2.2.1, z13.2.2.2.2.2.1, (z13.2.2.2.2.2.2 + 1)))) else ((f_X5_isUsable row v2).bind (fun q18 => if q18 = 0 then (some (Sum.inl (z13.1, z13.2.1, z13.2.2.1, z13.2.2.2.1, z13.2.2.2.2.1, z13.2.2.2.2.2.1, (z13.2.2.2.2.2.2 + 1)))) else ((f_X5_isUsable row z13.2.2.2.2.2.2).bind (fun q20 => if q20 = 0 then (some (Sum.inl (z13.1, z13.2.1, z13.2.2.1, z13.2.2.2.1, z13.2.2.2.2.1, z13.2.2.2.2.2.1, (z13.2.2.2.2.2.2 + 1)))) else ((f_X5_looksAt row goa z13.1 z13.2.1 z13.2.2.1 z13.2.2.2.1 z13.2.2.2.2.1 z13.2.2.2.2.2.1 v1 v2 z13.2.2.2.2.2.2).bind (fun q22 => some (Sum.inl (q22.1, q22.2.1, q22.2.2.1, q22.2.2.2.1, q22.2.2.2.2.1, q22.2.2.2.2.2, (z13.2.2.2.2.2.2 + 1))))))))))))
def f_X5_finds_b92 (row : Nat → Int32) (goa : Nat → Int64) (v1 : Int32) (z10 : (Nat → Int64) × (Nat → Int64) × (Nat → Int64) × Int64 × Int64 × Int32 × Int32) : Option (((Nat → Int64) × (Nat → Int64) × (Nat → Int64) × Int64 × Int64 × Int32 × Int32) ⊕ ((Nat → Int64) × (Nat → Int64) × (Nat → Int64) × Int64 × Int64 × Int32)) :=
  gd (ib 0 708) (if (row (0 : Int32).toNatClampNeg) ≤ z10.2.2.2.2.2.2 then (some (Sum.inr (z10.1, z10.2.1, z10.2.2.1, z10.2.2.2.1, z10.2.2.2.2.1, z10.2.2.2.2.2.1))) else ((lp (f_X5_finds_b106 row goa v1 z10.2.2.2.2.2.2) 1000 (z10.1, z10.2.1, z10.2.2.1, z10.2.2.2.1, z10.2.2.2.2.1, z10.2.2.2.2.2.1, (z10.2.2.2.2.2.2 + 1))).bind (fun q13 => some (Sum.inl (q13.1, q13.2.1, q13.2.2.1, q13.2.2.2.1, q13.2.2.2.2.1, q13.2.2.2.2.2, (z10.2.2.2.2.2.2 + 1))))))
def f_X5_finds_b78 (row : Nat → Int32) (goa : Nat → Int64) (z7 : (Nat → Int64) × (Nat → Int64) × (Nat → Int64) × Int64 × Int64 × Int32 × Int32) : Option (((Nat → Int64) × (Nat → Int64) × (Nat → Int64) × Int64 × Int64 × Int32 × Int32) ⊕ ((Nat → Int64) × (Nat → Int64) × (Nat → Int64) × Int64 × Int64 × Int32)) :=
  gd (ib 0 708) (if (row (0 : Int32).toNatClampNeg) ≤ z7.2.2.2.2.2.2 then (some (Sum.inr (z7.1, z7.2.1, z7.2.2.1, z7.2.2.2.1, z7.2.2.2.2.1, z7.2.2.2.2.2.1))) else ((lp (f_X5_finds_b92 row goa z7.2.2.2.2.2.2) 1000 (z7.1, z7.2.1, z7.2.2.1, z7.2.2.2.1, z7.2.2.2.2.1, z7.2.2.2.2.2.1, (z7.2.2.2.2.2.2 + 1))).bind (fun q10 => some (Sum.inl (q10.1, q10.2.1, q10.2.2.1, q10.2.2.2.1, q10.2.2.2.2.1, q10.2.2.2.2.2, (z7.2.2.2.2.2.2 + 1))))))
def f_X5_finds_j76 (row : Nat → Int32) (tab : Nat → Int64) (goa : Nat → Int64) (bes : Nat → Int64) (tic : Nat → Int64) (bwh : Int64) (bpr : Int64) (bse : Int32) : Option (Int32 × (Nat → Int64) × (Nat → Int64) × (Nat → Int64) × Int64 × Int64 × Int32) :=
  (lp (f_X5_finds_b78 row goa) 1000 (tab, bes, tic, bwh, bpr, bse, 0)).bind (fun q7 => if q7.2.2.2.2.2 < 0 then (some (0, q7.1, q7.2.1, q7.2.2.1, q7.2.2.2.1, q7.2.2.2.2.1, q7.2.2.2.2.2)) else (some (1, q7.1, q7.2.1, q7.2.2.1, q7.2.2.2.1, q7.2.2.2.2.1, q7.2.2.2.2.2)))
def f_X5_finds (row : Nat → Int32) (goa : Nat → Int64) (tab : Nat → Int64) (bes : Nat → Int64) (tic : Nat → Int64) (bwh : Int64) (bpr : Int64) (bse : Int32) : Option (Int32 × (Nat → Int64) × (Nat → Int64) × (Nat → Int64) × Int64 × Int64 × Int32) :=
  (lp f_X5_finds_b17 1000 (bes, 0)).bind (fun q1 => gd (ib 0 3) (if (lg_cmp (goa (0 : Int32).toNatClampNeg) 0) = 0 then (gd (ib 1 3) (if (lg_cmp (goa (1 : Int32).toNatClampNeg) 0) = 0 then (gd (ib 2 3) (if (lg_cmp (goa (2 : Int32).toNatClampNeg) 0) = 0 then (some (1, tab, q1, tic, 1, 0, 0)) else (f_X5_finds_j76 row tab goa q1 tic 1 0 (-1)))) else (f_X5_finds_j76 row tab goa q1 tic 1 0 (-1)))) else (f_X5_finds_j76 row tab goa q1 tic 1 0 (-1))))

set_option maxHeartbeats 4000000 in
set_option maxRecDepth 100000 in
theorem c_X5_finds (l : Launch) (G : va_G) (cI cJ cZ cO cA : ClassId) (e : Nat × Nat) (aM : Nat → Nat) (sz : Nat) (row : Nat → Int32) (tot : Nat → Int64) (tab : Nat → Int64) (goa : Nat → Int64) (bes : Nat → Int64) (tic : Nat → Int64) (txt : Nat → Int32) (par : Nat → Int32) (sav : Int32) (bwh : Int64) (bpr : Int64) (bse : Int32) (len : Int32) (mat : Int32) (ask : Int32) (hh : Int64) {res : Int32 × (Nat → Int64) × (Nat → Int64) × (Nat → Int64) × Int64 × Int64 × Int32} (hf : f_X5_finds row goa tab bes tic bwh bpr bse = some res) : MetI l yX5_finds cX5_finds 4 .boolean ({ frames := 6, cells := 0, slots := 0, locals := 143 } : Room) [.ref (aM 0)] G (ty5 cI cJ cZ cO cA) e (wM cI cJ aM row tot tab goa bes tic txt par sav bwh bpr bse len mat ask hh ++ ([] : va_W)) (wM cI cJ aM row tot res.2.1 goa res.2.2.1 res.2.2.2.1 txt par sav res.2.2.2.2.1 res.2.2.2.2.2.1 res.2.2.2.2.2.2 len mat ask hh ++ ([] : va_W)) sz res.1 := by
  refine g_body (QQ := fun A => (qI G (ty5 cI cJ cZ cO cA) A (wM cI cJ aM row tot res.2.1 goa res.2.2.1 res.2.2.2.1 txt par sav res.2.2.2.2.1 res.2.2.2.2.2.1 res.2.2.2.2.2.2 len mat ask hh ++ ([] : va_W)) res.1)) (own := RX5) (by decide) rfl (Nat.le_of_ble_eq_true rfl) ?_
  intro p ev s m below meth c A ls hx hb hr hml hown hts hlk hA hP hD hS hK hE hl
  have hl : lv_has ls 4 [(0, .ref (aM 0))] := hl
  show W p l ev ({ frames := 6, cells := 0, slots := 0, locals := 143 } : Room) s m ([.ref (aM 0)] : List Value).toArray below meth c s.heap [] 0 0 (MQ below (qI G (ty5 cI cJ cZ cO cA) A (wM cI cJ aM row tot res.2.1 goa res.2.2.1 res.2.2.2.1 txt par sav res.2.2.2.2.1 res.2.2.2.2.2.1 res.2.2.2.2.2.2 len mat ask hh ++ ([] : va_W)) res.1) ([.ref (aM 0)] : List Value).toArray s 0 0 A) (F0 m 0 ls [])
  have h := hf
  unfold f_X5_finds at h
  refine lv_aload_n hx hb dX5_finds_0 rfl (lv_at hl 0 rfl) ?_
  refine lv_iconst (v := (-1)) hx hb dX5_finds_1 (by decide) ?_
  refine va_put (D := G) (ci := 5) (ty := .int) (v := .int (-1)) (C := RX5) (T := TX5) (N := 16) hx hb hts uX5 tyX5 tyX5_ok nmX5 hown hK hP hD hS 0 rfl rfl 8 (by decide) (hts _ kw587) (fun _ h9 => h9) rfl (by decide +kernel) rfl rfl (Nat.le_of_ble_eq_true rfl) dX5_finds_2 (fun H locs hP hD hS => ?_)
  have hP : va_P G vwCl (wM cI cJ aM row tot tab goa bes tic txt par sav bwh bpr (-1) len mat ask hh ++ ([] : va_W)) H := hP
  have hD : va_D A (wM cI cJ aM row tot tab goa bes tic txt par sav bwh bpr (-1) len mat ask hh ++ ([] : va_W)) := hD
  refine lv_aload_n hx hb dX5_finds_5 rfl (lv_at hl 0 rfl) ?_
  refine lv_lconst (v := 1) hx hb dX5_finds_6 (by decide) ?_
  refine va_put (D := G) (ci := 5) (ty := .long) (v := .long 1) (C := RX5) (T := TX5) (N := 16) hx hb hts uX5 tyX5 tyX5_ok nmX5 hown hK hP hD hS 0 rfl rfl 6 (by decide) (hts _ kw585) (fun _ h9 => h9) rfl (by decide +kernel) rfl rfl (Nat.le_of_ble_eq_true rfl) dX5_finds_7 (fun H locs hP hD hS => ?_)
  have hP : va_P G vwCl (wM cI cJ aM row tot tab goa bes tic txt par sav 1 bpr (-1) len mat ask hh ++ ([] : va_W)) H := hP
  have hD : va_D A (wM cI cJ aM row tot tab goa bes tic txt par sav 1 bpr (-1) len mat ask hh ++ ([] : va_W)) := hD
  refine lv_aload_n hx hb dX5_finds_10 rfl (lv_at hl 0 rfl) ?_
  refine lv_lconst (v := 0) hx hb dX5_finds_11 (by decide) ?_
  refine va_put (D := G) (ci := 5) (ty := .long) (v := .long 0) (C := RX5) (T := TX5) (N := 16) hx hb hts uX5 tyX5 tyX5_ok nmX5 hown hK hP hD hS 0 rfl rfl 7 (by decide) (hts _ kw586) (fun _ h9 => h9) rfl (by decide +kernel) rfl rfl (Nat.le_of_ble_eq_true rfl) dX5_finds_12 (fun H locs hP hD hS => ?_)
  have hP : va_P G vwCl (wM cI cJ aM row tot tab goa bes tic txt par sav 1 0 (-1) len mat ask hh ++ ([] : va_W)) H := hP
  have hD : va_D A (wM cI cJ aM row tot tab goa bes tic txt par sav 1 0 (-1) len mat ask hh ++ ([] : va_W)) := hD
  refine lv_iconst (v := 0) hx hb dX5_finds_15 (by decide) ?_
  refine lv_istore_n (lv' := [(1, .int 0), (0, .ref (aM 0))]) hx hb dX5_finds_16 rfl hl (by decide) rfl (fun ls hl => ?_)
  obtain ⟨q1, hq1, h⟩ := bd_s h
  have hX1_0 : ∀ (x1 : (Nat → Int64)) (H : Heap) (locs : List Loc) (ls : Array Slot), x1 = q1 → va_P G vwCl (wM cI cJ aM row tot tab goa x1 tic txt par sav 1 0 (-1) len mat ask hh ++ ([] : va_W)) H → va_D A (wM cI cJ aM row tot tab goa x1 tic txt par sav 1 0 (-1) len mat ask hh ++ ([] : va_W)) → va_S A s.heap H locs → lv_has ls 4 [(0, .ref (aM 0))] → W p l ev ({ frames := 6, cells := 0, slots := 0, locals := 143 } : Room) s m ([.ref (aM 0)] : List Value).toArray below meth c H locs 0 0 (MQ below (qI G (ty5 cI cJ cZ cO cA) A (wM cI cJ aM row tot res.2.1 goa res.2.2.1 res.2.2.2.1 txt par sav res.2.2.2.2.1 res.2.2.2.2.2.1 res.2.2.2.2.2.2 len mat ask hh ++ ([] : va_W)) res.1) ([.ref (aM 0)] : List Value).toArray s 0 0 A) (F0 m 36 ls []) := by
    intro x1 H locs ls e1 hP hD hS hl
    replace e1 := e1.symm
    subst e1
    refine lv_aload_n hx hb dX5_finds_36 rfl (lv_at hl 0 rfl) ?_
    refine va_get (D := G) (ci := 5) (v := .ref (aM 4)) (C := RX5) (T := TX5) (N := 16) hx hb hts uX5 hown hK hP 0 rfl rfl 4 (by decide) (hts _ kw583) (fun _ h9 => h9) rfl dX5_finds_37 ?_
    refine lv_iconst (v := 0) hx hb dX5_finds_40 (by decide) ?_
    obtain ⟨g4, h⟩ := gd_s h
    refine va_lald hx hb hK hP 4 1 rfl rfl (ib_in g4) dX5_finds_41 ?_
    refine lv_lconst (v := 0) hx hb dX5_finds_42 (by decide) ?_
    refine W.lcmp hx hb dX5_finds_43 ?_
    have hJ6 : ∀ (tab_6 : Nat → Int64) (bes_6 : Nat → Int64) (tic_6 : Nat → Int64) (bwh_6 : Int64) (bpr_6 : Int64) (bse_6 : Int32) (H : Heap) (locs : List Loc) (ls : Array Slot), f_X5_finds_j76 row tab_6 goa bes_6 tic_6 bwh_6 bpr_6 bse_6 = some res → va_P G vwCl (wM cI cJ aM row tot tab_6 goa bes_6 tic_6 txt par sav bwh_6 bpr_6 bse_6 len mat ask hh ++ ([] : va_W)) H → va_D A (wM cI cJ aM row tot tab_6 goa bes_6 tic_6 txt par sav bwh_6 bpr_6 bse_6 len mat ask hh ++ ([] : va_W)) → va_S A s.heap H locs → lv_has ls 4 [(0, .ref (aM 0))] → W p l ev ({ frames := 6, cells := 0, slots := 0, locals := 143 } : Room) s m ([.ref (aM 0)] : List Value).toArray below meth c H locs 0 0 (MQ below (qI G (ty5 cI cJ cZ cO cA) A (wM cI cJ aM row tot res.2.1 goa res.2.2.1 res.2.2.2.1 txt par sav res.2.2.2.2.1 res.2.2.2.2.2.1 res.2.2.2.2.2.2 len mat ask hh ++ ([] : va_W)) res.1) ([.ref (aM 0)] : List Value).toArray s 0 0 A) (F0 m 76 ls []) := by
      intro tab_6 bes_6 tic_6 bwh_6 bpr_6 bse_6 H locs ls h hP hD hS hl
      unfold f_X5_finds_j76 at h
      refine lv_iconst (v := 0) hx hb dX5_finds_76 (by decide) ?_
      refine lv_istore_n (lv' := [(1, .int 0), (0, .ref (aM 0))]) hx hb dX5_finds_77 rfl hl (by decide) rfl (fun ls hl => ?_)
      obtain ⟨q7, hq7, h⟩ := bd_s h
      have hX7_0 : ∀ (x7 : (Nat → Int64) × (Nat → Int64) × (Nat → Int64) × Int64 × Int64 × Int32) (H : Heap) (locs : List Loc) (ls : Array Slot), x7 = q7 → va_P G vwCl (wM cI cJ aM row tot x7.1 goa x7.2.1 x7.2.2.1 txt par sav x7.2.2.2.1 x7.2.2.2.2.1 x7.2.2.2.2.2 len mat ask hh ++ ([] : va_W)) H → va_D A (wM cI cJ aM row tot x7.1 goa x7.2.1 x7.2.2.1 txt par sav x7.2.2.2.1 x7.2.2.2.2.1 x7.2.2.2.2.2 len mat ask hh ++ ([] : va_W)) → va_S A s.heap H locs → lv_has ls 4 [(0, .ref (aM 0))] → W p l ev ({ frames := 6, cells := 0, slots := 0, locals := 143 } : Room) s m ([.ref (aM 0)] : List Value).toArray below meth c H locs 0 0 (MQ below (qI G (ty5 cI cJ cZ cO cA) A (wM cI cJ aM row tot res.2.1 goa res.2.2.1 res.2.2.2.1 txt par sav res.2.2.2.2.1 res.2.2.2.2.2.1 res.2.2.2.2.2.2 len mat ask hh ++ ([] : va_W)) res.1) ([.ref (aM 0)] : List Value).toArray s 0 0 A) (F0 m 165 ls []) := by
        intro x7 H locs ls e7 hP hD hS hl
        replace e7 := e7.symm
        subst e7
        refine lv_aload_n hx hb dX5_finds_165 rfl (lv_at hl 0 rfl) ?_
        refine va_get (D := G) (ci := 5) (v := .int q7.2.2.2.2.2) (C := RX5) (T := TX5) (N := 16) hx hb hts uX5 hown hK hP 0 rfl rfl 8 (by decide) (hts _ kw587) (fun _ h9 => h9) rfl dX5_finds_166 ?_
        refine lv_if_lt (tgt := 176) hx hb dX5_finds_169 (by decide) (fun c23 => ?_) (fun c23 => ?_)
        · replace h := (if_pos c23).symm.trans h
          refine lv_iconst (v := 0) hx hb dX5_finds_176 (by decide) ?_
          rw [← Option.some.inj h]
          exact kri hx hb hr hlk rfl rfl hP hD hS hK dX5_finds_177
        · replace h := (if_neg c23).symm.trans h
          refine lv_iconst (v := 1) hx hb dX5_finds_172 (by decide) ?_
          refine lv_goto (tgt := 177) hx hb dX5_finds_173 (by decide) ?_
          rw [← Option.some.inj h]
          exact kri hx hb hr hlk rfl rfl hP hD hS hK dX5_finds_177
      have hL7 : ∀ (n : Nat) (z7 : (Nat → Int64) × (Nat → Int64) × (Nat → Int64) × Int64 × Int64 × Int32 × Int32) (H : Heap) (locs : List Loc) (ls : Array Slot), lp (f_X5_finds_b78 row goa) n z7 = some q7 → va_P G vwCl (wM cI cJ aM row tot z7.1 goa z7.2.1 z7.2.2.1 txt par sav z7.2.2.2.1 z7.2.2.2.2.1 z7.2.2.2.2.2.1 len mat ask hh ++ ([] : va_W)) H → va_D A (wM cI cJ aM row tot z7.1 goa z7.2.1 z7.2.2.1 txt par sav z7.2.2.2.1 z7.2.2.2.2.1 z7.2.2.2.2.2.1 len mat ask hh ++ ([] : va_W)) → va_S A s.heap H locs → lv_has ls 4 [(0, .ref (aM 0)), (1, .int z7.2.2.2.2.2.2)] → W p l ev ({ frames := 6, cells := 0, slots := 0, locals := 143 } : Room) s m ([.ref (aM 0)] : List Value).toArray below meth c H locs 0 0 (MQ below (qI G (ty5 cI cJ cZ cO cA) A (wM cI cJ aM row tot res.2.1 goa res.2.2.1 res.2.2.2.1 txt par sav res.2.2.2.2.1 res.2.2.2.2.2.1 res.2.2.2.2.2.2 len mat ask hh ++ ([] : va_W)) res.1) ([.ref (aM 0)] : List Value).toArray s 0 0 A) (F0 m 78 ls []) := by
        intro n
        induction n with
        | zero => intro z7 H locs ls h; cases h
        | succ n ih7 =>
          intro z7 H locs ls h hP hD hS hl
          obtain ⟨o7, h, h7⟩ := lp_s h
          unfold f_X5_finds_b78 at h
          refine lv_iload_n hx hb dX5_finds_78 rfl (lv_at hl 1 rfl) ?_
          refine lv_aload_n hx hb dX5_finds_79 rfl (lv_at hl 0 rfl) ?_
          refine va_get (D := G) (ci := 5) (v := .ref (aM 1)) (C := RX5) (T := TX5) (N := 16) hx hb hts uX5 hown hK hP 0 rfl rfl 0 (by decide) (hts _ kw579) (fun _ h9 => h9) rfl dX5_finds_80 ?_
          refine lv_iconst (v := 0) hx hb dX5_finds_83 (by decide) ?_
          obtain ⟨g8, h⟩ := gd_s h
          refine va_iald hx hb hK hP 1 0 rfl rfl (ib_in g8) dX5_finds_84 ?_
          refine lv_icmp_ge (tgt := 165) hx hb dX5_finds_85 (by decide) (fun c9 => ?_) (fun c9 => ?_)
          · replace h := (if_pos c9).symm.trans h
            rw [← Option.some.inj h] at h7
            exact hX7_0 (z7.1, z7.2.1, z7.2.2.1, z7.2.2.2.1, z7.2.2.2.2.1, z7.2.2.2.2.2.1) _ _ _ (lp_x h7) hP hD hS (lv_sub hl [0] rfl)
          · replace h := (if_neg c9).symm.trans h
            refine lv_iload_n hx hb dX5_finds_88 rfl (lv_at hl 1 rfl) ?_
            refine lv_iconst (v := 1) hx hb dX5_finds_89 (by decide) ?_
            refine lv_iadd hx hb dX5_finds_90 ?_
            refine lv_istore_n (lv' := [(2, .int (z7.2.2.2.2.2.2 + 1)), (0, .ref (aM 0)), (1, .int z7.2.2.2.2.2.2)]) hx hb dX5_finds_91 rfl hl (by decide) rfl (fun ls hl => ?_)
            obtain ⟨q10, hq10, h⟩ := bd_s h
            have hX10_0 : ∀ (x10 : (Nat → Int64) × (Nat → Int64) × (Nat → Int64) × Int64 × Int64 × Int32) (H : Heap) (locs : List Loc) (ls : Array Slot), x10 = q10 → va_P G vwCl (wM cI cJ aM row tot x10.1 goa x10.2.1 x10.2.2.1 txt par sav x10.2.2.2.1 x10.2.2.2.2.1 x10.2.2.2.2.2 len mat ask hh ++ ([] : va_W)) H → va_D A (wM cI cJ aM row tot x10.1 goa x10.2.1 x10.2.2.1 txt par sav x10.2.2.2.1 x10.2.2.2.2.1 x10.2.2.2.2.2 len mat ask hh ++ ([] : va_W)) → va_S A s.heap H locs → lv_has ls 4 [(0, .ref (aM 0)), (1, .int z7.2.2.2.2.2.2)] → W p l ev ({ frames := 6, cells := 0, slots := 0, locals := 143 } : Room) s m ([.ref (aM 0)] : List Value).toArray below meth c H locs 0 0 (MQ below (qI G (ty5 cI cJ cZ cO cA) A (wM cI cJ aM row tot res.2.1 goa res.2.2.1 res.2.2.2.1 txt par sav res.2.2.2.2.1 res.2.2.2.2.2.1 res.2.2.2.2.2.2 len mat ask hh ++ ([] : va_W)) res.1) ([.ref (aM 0)] : List Value).toArray s 0 0 A) (F0 m 159 ls []) := by
              intro x10 H locs ls e10 hP hD hS hl
              replace e10 := e10.symm
              subst e10
              refine lv_iinc (v := (z7.2.2.2.2.2.2 + 1)) (lv' := [(1, .int (z7.2.2.2.2.2.2 + 1)), (0, .ref (aM 0))]) hx hb dX5_finds_159 hl (k := 1) rfl rfl (by decide) rfl (fun ls hl => ?_)
              refine lv_goto (tgt := 78) hx hb dX5_finds_162 (by decide) ?_
              rw [← Option.some.inj h] at h7
              exact ih7 (q10.1, q10.2.1, q10.2.2.1, q10.2.2.2.1, q10.2.2.2.2.1, q10.2.2.2.2.2, (z7.2.2.2.2.2.2 + 1)) _ _ _ (lp_b h7) hP hD hS (lv_sub hl [1, 0] rfl)
            have hL10 : ∀ (n : Nat) (z10 : (Nat → Int64) × (Nat → Int64) × (Nat → Int64) × Int64 × Int64 × Int32 × Int32) (H : Heap) (locs : List Loc) (ls : Array Slot), lp (f_X5_finds_b92 row goa z7.2.2.2.2.2.2) n z10 = some q10 → va_P G vwCl (wM cI cJ aM row tot z10.1 goa z10.2.1 z10.2.2.1 txt par sav z10.2.2.2.1 z10.2.2.2.2.1 z10.2.2.2.2.2.1 len mat ask hh ++ ([] : va_W)) H → va_D A (wM cI cJ aM row tot z10.1 goa z10.2.1 z10.2.2.1 txt par sav z10.2.2.2.1 z10.2.2.2.2.1 z10.2.2.2.2.2.1 len mat ask hh ++ ([] : va_W)) → va_S A s.heap H locs → lv_has ls 4 [(0, .ref (aM 0)), (1, .int z7.2.2.2.2.2.2), (2, .int z10.2.2.2.2.2.2)] → W p l ev ({ frames := 6, cells := 0, slots := 0, locals := 143 } : Room) s m ([.ref (aM 0)] : List Value).toArray below meth c H locs 0 0 (MQ below (qI G (ty5 cI cJ cZ cO cA) A (wM cI cJ aM row tot res.2.1 goa res.2.2.1 res.2.2.2.1 txt par sav res.2.2.2.2.1 res.2.2.2.2.2.1 res.2.2.2.2.2.2 len mat ask hh ++ ([] : va_W)) res.1) ([.ref (aM 0)] : List Value).toArray s 0 0 A) (F0 m 92 ls []) := by
              intro n
              induction n with
              | zero => intro z10 H locs ls h; cases h
              | succ n ih10 =>
                intro z10 H locs ls h hP hD hS hl
                obtain ⟨o10, h, h10⟩ := lp_s h
                unfold f_X5_finds_b92 at h
                refine lv_iload_n hx hb dX5_finds_92 rfl (lv_at hl 2 rfl) ?_
                refine lv_aload_n hx hb dX5_finds_93 rfl (lv_at hl 0 rfl) ?_
                refine va_get (D := G) (ci := 5) (v := .ref (aM 1)) (C := RX5) (T := TX5) (N := 16) hx hb hts uX5 hown hK hP 0 rfl rfl 0 (by decide) (hts _ kw579) (fun _ h9 => h9) rfl dX5_finds_94 ?_
                refine lv_iconst (v := 0) hx hb dX5_finds_97 (by decide) ?_
                obtain ⟨g11, h⟩ := gd_s h
                refine va_iald hx hb hK hP 1 0 rfl rfl (ib_in g11) dX5_finds_98 ?_
                refine lv_icmp_ge (tgt := 159) hx hb dX5_finds_99 (by decide) (fun c12 => ?_) (fun c12 => ?_)
                · replace h := (if_pos c12).symm.trans h
                  rw [← Option.some.inj h] at h10
                  exact hX10_0 (z10.1, z10.2.1, z10.2.2.1, z10.2.2.2.1, z10.2.2.2.2.1, z10.2.2.2.2.2.1) _ _ _ (lp_x h10) hP hD hS (lv_sub hl [0, 1] rfl)
                · replace h := (if_neg c12).symm.trans h
                  refine lv_iload_n hx hb dX5_finds_102 rfl (lv_at hl 2 rfl) ?_
                  refine lv_iconst (v := 1) hx hb dX5_finds_103 (by decide) ?_
                  refine lv_iadd hx hb dX5_finds_104 ?_
                  refine lv_istore_n (lv' := [(3, .int (z10.2.2.2.2.2.2 + 1)), (0, .ref (aM 0)), (1, .int z7.2.2.2.2.2.2), (2, .int z10.2.2.2.2.2.2)]) hx hb dX5_finds_105 rfl hl (by decide) rfl (fun ls hl => ?_)
                  obtain ⟨q13, hq13, h⟩ := bd_s h
                  have hX13_0 : ∀ (x13 : (Nat → Int64) × (Nat → Int64) × (Nat → Int64) × Int64 × Int64 × Int32) (H : Heap) (locs : List Loc) (ls : Array Slot), x13 = q13 → va_P G vwCl (wM cI cJ aM row tot x13.1 goa x13.2.1 x13.2.2.1 txt par sav x13.2.2.2.1 x13.2.2.2.2.1 x13.2.2.2.2.2 len mat ask hh ++ ([] : va_W)) H → va_D A (wM cI cJ aM row tot x13.1 goa x13.2.1 x13.2.2.1 txt par sav x13.2.2.2.1 x13.2.2.2.2.1 x13.2.2.2.2.2 len mat ask hh ++ ([] : va_W)) → va_S A s.heap H locs → lv_has ls 4 [(0, .ref (aM 0)), (1, .int z7.2.2.2.2.2.2), (2, .int z10.2.2.2.2.2.2)] → W p l ev ({ frames := 6, cells := 0, slots := 0, locals := 143 } : Room) s m ([.ref (aM 0)] : List Value).toArray below meth c H locs 0 0 (MQ below (qI G (ty5 cI cJ cZ cO cA) A (wM cI cJ aM row tot res.2.1 goa res.2.2.1 res.2.2.2.1 txt par sav res.2.2.2.2.1 res.2.2.2.2.2.1 res.2.2.2.2.2.2 len mat ask hh ++ ([] : va_W)) res.1) ([.ref (aM 0)] : List Value).toArray s 0 0 A) (F0 m 153 ls []) := by
                    intro x13 H locs ls e13 hP hD hS hl
                    replace e13 := e13.symm
                    subst e13
                    refine lv_iinc (v := (z10.2.2.2.2.2.2 + 1)) (lv' := [(2, .int (z10.2.2.2.2.2.2 + 1)), (0, .ref (aM 0)), (1, .int z7.2.2.2.2.2.2)]) hx hb dX5_finds_153 hl (k := 2) rfl rfl (by decide) rfl (fun ls hl => ?_)
                    refine lv_goto (tgt := 92) hx hb dX5_finds_156 (by decide) ?_
                    rw [← Option.some.inj h] at h10
                    exact ih10 (q13.1, q13.2.1, q13.2.2.1, q13.2.2.2.1, q13.2.2.2.2.1, q13.2.2.2.2.2, (z10.2.2.2.2.2.2 + 1)) _ _ _ (lp_b h10) hP hD hS (lv_sub hl [1, 2, 0] rfl)
                  have hL13 : ∀ (n : Nat) (z13 : (Nat → Int64) × (Nat → Int64) × (Nat → Int64) × Int64 × Int64 × Int32 × Int32) (H : Heap) (locs : List Loc) (ls : Array Slot), lp (f_X5_finds_b106 row goa z7.2.2.2.2.2.2 z10.2.2.2.2.2.2) n z13 = some q13 → va_P G vwCl (wM cI cJ aM row tot z13.1 goa z13.2.1 z13.2.2.1 txt par sav z13.2.2.2.1 z13.2.2.2.2.1 z13.2.2.2.2.2.1 len mat ask hh ++ ([] : va_W)) H → va_D A (wM cI cJ aM row tot z13.1 goa z13.2.1 z13.2.2.1 txt par sav z13.2.2.2.1 z13.2.2.2.2.1 z13.2.2.2.2.2.1 len mat ask hh ++ ([] : va_W)) → va_S A s.heap H locs → lv_has ls 4 [(0, .ref (aM 0)), (1, .int z7.2.2.2.2.2.2), (2, .int z10.2.2.2.2.2.2), (3, .int z13.2.2.2.2.2.2)] → W p l ev ({ frames := 6, cells := 0, slots := 0, locals := 143 } : Room) s m ([.ref (aM 0)] : List Value).toArray below meth c H locs 0 0 (MQ below (qI G (ty5 cI cJ cZ cO cA) A (wM cI cJ aM row tot res.2.1 goa res.2.2.1 res.2.2.2.1 txt par sav res.2.2.2.2.1 res.2.2.2.2.2.1 res.2.2.2.2.2.2 len mat ask hh ++ ([] : va_W)) res.1) ([.ref (aM 0)] : List Value).toArray s 0 0 A) (F0 m 106 ls []) := by
                    intro n
                    induction n with
                    | zero => intro z13 H locs ls h; cases h
                    | succ n ih13 =>
                      intro z13 H locs ls h hP hD hS hl
                      obtain ⟨o13, h, h13⟩ := lp_s h
                      unfold f_X5_finds_b106 at h
                      refine lv_iload_n hx hb dX5_finds_106 rfl (lv_at hl 3 rfl) ?_
                      refine lv_aload_n hx hb dX5_finds_107 rfl (lv_at hl 0 rfl) ?_
                      refine va_get (D := G) (ci := 5) (v := .ref (aM 1)) (C := RX5) (T := TX5) (N := 16) hx hb hts uX5 hown hK hP 0 rfl rfl 0 (by decide) (hts _ kw579) (fun _ h9 => h9) rfl dX5_finds_108 ?_
                      refine lv_iconst (v := 0) hx hb dX5_finds_111 (by decide) ?_
                      obtain ⟨g14, h⟩ := gd_s h
                      refine va_iald hx hb hK hP 1 0 rfl rfl (ib_in g14) dX5_finds_112 ?_
                      refine lv_icmp_ge (tgt := 153) hx hb dX5_finds_113 (by decide) (fun c15 => ?_) (fun c15 => ?_)
                      · replace h := (if_pos c15).symm.trans h
                        rw [← Option.some.inj h] at h13
                        exact hX13_0 (z13.1, z13.2.1, z13.2.2.1, z13.2.2.2.1, z13.2.2.2.2.1, z13.2.2.2.2.2.1) _ _ _ (lp_x h13) hP hD hS (lv_sub hl [0, 1, 2] rfl)
                      · replace h := (if_neg c15).symm.trans h
                        refine lv_aload_n hx hb dX5_finds_116 rfl (lv_at hl 0 rfl) ?_
                        refine lv_iload_n hx hb dX5_finds_117 rfl (lv_at hl 1 rfl) ?_
                        obtain ⟨q16, hq16, h⟩ := bd_s h
                        refine kVi (n := 1) (C := RX5) (ws' := wM cI cJ aM row tot z13.1 goa z13.2.1 z13.2.2.1 txt par sav z13.2.2.2.1 z13.2.2.2.2.1 z13.2.2.2.2.2.1 len mat ask hh ++ ([] : va_W)) (As := [.int z7.2.2.2.2.2.2]) (rest := []) hx hb hml hown hts (c_X5_isUsable l G cI cJ cZ cO cA e aM _ row tot z13.1 goa z13.2.1 z13.2.2.1 txt par sav z13.2.2.2.1 z13.2.2.2.2.1 z13.2.2.2.2.2.1 len mat ask hh z7.2.2.2.2.2.2 hq16) (tb_V kw669 kw671 kv18 kw7 kw672) rfl rfl (by decide +kernel) ⟨Nat.le_of_ble_eq_true rfl, Nat.le_of_ble_eq_true rfl⟩ hK hP hD hS hA hE 0 rfl rfl [0, 1, 2, 3, 4, 5, 6, 7, 8] [] rfl rfl rfl 9 ⟨rfl, rfl⟩ (by decide +kernel) (by decide +kernel) rfl rfl hl.1 (Nat.le_of_ble_eq_true rfl) ⟨Nat.zero_le _, Nat.zero_le _⟩ dX5_finds_118 (fun H locs hP hD hS => ?_)
                        refine lv_if_eq (tgt := 147) hx hb dX5_finds_121 (by decide) (fun c17 => ?_) (fun c17 => ?_)
                        · replace h := (if_pos c17).symm.trans h
                          refine lv_iinc (v := (z13.2.2.2.2.2.2 + 1)) (lv' := [(3, .int (z13.2.2.2.2.2.2 + 1)), (0, .ref (aM 0)), (1, .int z7.2.2.2.2.2.2), (2, .int z10.2.2.2.2.2.2)]) hx hb dX5_finds_147 hl (k := 3) rfl rfl (by decide) rfl (fun ls hl => ?_)
                          refine lv_goto (tgt := 106) hx hb dX5_finds_150 (by decide) ?_
                          rw [← Option.some.inj h] at h13
                          exact ih13 (z13.1, z13.2.1, z13.2.2.1, z13.2.2.2.1, z13.2.2.2.2.1, z13.2.2.2.2.2.1, (z13.2.2.2.2.2.2 + 1)) _ _ _ (lp_b h13) hP hD hS (lv_sub hl [1, 2, 3, 0] rfl)
                        · replace h := (if_neg c17).symm.trans h
                          refine lv_aload_n hx hb dX5_finds_124 rfl (lv_at hl 0 rfl) ?_
                          refine lv_iload_n hx hb dX5_finds_125 rfl (lv_at hl 2 rfl) ?_
                          obtain ⟨q18, hq18, h⟩ := bd_s h
                          refine kVi (n := 1) (C := RX5) (ws' := wM cI cJ aM row tot z13.1 goa z13.2.1 z13.2.2.1 txt par sav z13.2.2.2.1 z13.2.2.2.2.1 z13.2.2.2.2.2.1 len mat ask hh ++ ([] : va_W)) (As := [.int z10.2.2.2.2.2.2]) (rest := []) hx hb hml hown hts (c_X5_isUsable l G cI cJ cZ cO cA e aM _ row tot z13.1 goa z13.2.1 z13.2.2.1 txt par sav z13.2.2.2.1 z13.2.2.2.2.1 z13.2.2.2.2.2.1 len mat ask hh z10.2.2.2.2.2.2 hq18) (tb_V kw669 kw671 kv18 kw7 kw672) rfl rfl (by decide +kernel) ⟨Nat.le_of_ble_eq_true rfl, Nat.le_of_ble_eq_true rfl⟩ hK hP hD hS hA hE 0 rfl rfl [0, 1, 2, 3, 4, 5, 6, 7, 8] [] rfl rfl rfl 9 ⟨rfl, rfl⟩ (by decide +kernel) (by decide +kernel) rfl rfl hl.1 (Nat.le_of_ble_eq_true rfl) ⟨Nat.zero_le _, Nat.zero_le _⟩ dX5_finds_126 (fun H locs hP hD hS => ?_)
                          refine lv_if_eq (tgt := 147) hx hb dX5_finds_129 (by decide) (fun c19 => ?_) (fun c19 => ?_)
                          · replace h := (if_pos c19).symm.trans h
                            refine lv_iinc (v := (z13.2.2.2.2.2.2 + 1)) (lv' := [(3, .int (z13.2.2.2.2.2.2 + 1)), (0, .ref (aM 0)), (1, .int z7.2.2.2.2.2.2), (2, .int z10.2.2.2.2.2.2)]) hx hb dX5_finds_147 hl (k := 3) rfl rfl (by decide) rfl (fun ls hl => ?_)
                            refine lv_goto (tgt := 106) hx hb dX5_finds_150 (by decide) ?_
                            rw [← Option.some.inj h] at h13
                            exact ih13 (z13.1, z13.2.1, z13.2.2.1, z13.2.2.2.1, z13.2.2.2.2.1, z13.2.2.2.2.2.1, (z13.2.2.2.2.2.2 + 1)) _ _ _ (lp_b h13) hP hD hS (lv_sub hl [1, 2, 3, 0] rfl)
                          · replace h := (if_neg c19).symm.trans h
                            refine lv_aload_n hx hb dX5_finds_132 rfl (lv_at hl 0 rfl) ?_
                            refine lv_iload_n hx hb dX5_finds_133 rfl (lv_at hl 3 rfl) ?_
                            obtain ⟨q20, hq20, h⟩ := bd_s h
                            refine kVi (n := 1) (C := RX5) (ws' := wM cI cJ aM row tot z13.1 goa z13.2.1 z13.2.2.1 txt par sav z13.2.2.2.1 z13.2.2.2.2.1 z13.2.2.2.2.2.1 len mat ask hh ++ ([] : va_W)) (As := [.int z13.2.2.2.2.2.2]) (rest := []) hx hb hml hown hts (c_X5_isUsable l G cI cJ cZ cO cA e aM _ row tot z13.1 goa z13.2.1 z13.2.2.1 txt par sav z13.2.2.2.1 z13.2.2.2.2.1 z13.2.2.2.2.2.1 len mat ask hh z13.2.2.2.2.2.2 hq20) (tb_V kw669 kw671 kv18 kw7 kw672) rfl rfl (by decide +kernel) ⟨Nat.le_of_ble_eq_true rfl, Nat.le_of_ble_eq_true rfl⟩ hK hP hD hS hA hE 0 rfl rfl [0, 1, 2, 3, 4, 5, 6, 7, 8] [] rfl rfl rfl 9 ⟨rfl, rfl⟩ (by decide +kernel) (by decide +kernel) rfl rfl hl.1 (Nat.le_of_ble_eq_true rfl) ⟨Nat.zero_le _, Nat.zero_le _⟩ dX5_finds_134 (fun H locs hP hD hS => ?_)
                            refine lv_if_eq (tgt := 147) hx hb dX5_finds_137 (by decide) (fun c21 => ?_) (fun c21 => ?_)
                            · replace h := (if_pos c21).symm.trans h
                              refine lv_iinc (v := (z13.2.2.2.2.2.2 + 1)) (lv' := [(3, .int (z13.2.2.2.2.2.2 + 1)), (0, .ref (aM 0)), (1, .int z7.2.2.2.2.2.2), (2, .int z10.2.2.2.2.2.2)]) hx hb dX5_finds_147 hl (k := 3) rfl rfl (by decide) rfl (fun ls hl => ?_)
                              refine lv_goto (tgt := 106) hx hb dX5_finds_150 (by decide) ?_
                              rw [← Option.some.inj h] at h13
                              exact ih13 (z13.1, z13.2.1, z13.2.2.1, z13.2.2.2.1, z13.2.2.2.2.1, z13.2.2.2.2.2.1, (z13.2.2.2.2.2.2 + 1)) _ _ _ (lp_b h13) hP hD hS (lv_sub hl [1, 2, 3, 0] rfl)
                            · replace h := (if_neg c21).symm.trans h
                              refine lv_aload_n hx hb dX5_finds_140 rfl (lv_at hl 0 rfl) ?_
                              refine lv_iload_n hx hb dX5_finds_141 rfl (lv_at hl 1 rfl) ?_
                              refine lv_iload_n hx hb dX5_finds_142 rfl (lv_at hl 2 rfl) ?_
                              refine lv_iload_n hx hb dX5_finds_143 rfl (lv_at hl 3 rfl) ?_
                              obtain ⟨q22, hq22, h⟩ := bd_s h
                              refine kVv (n := 3) (C := RX5) (ws' := wM cI cJ aM row tot q22.1 goa q22.2.1 q22.2.2.1 txt par sav q22.2.2.2.1 q22.2.2.2.2.1 q22.2.2.2.2.2 len mat ask hh ++ ([] : va_W)) (As := [.int z7.2.2.2.2.2.2, .int z10.2.2.2.2.2.2, .int z13.2.2.2.2.2.2]) (rest := []) hx hb hml hown hts (c_X5_looksAt l G cI cJ cZ cO cA e aM _ row tot z13.1 goa z13.2.1 z13.2.2.1 txt par sav z13.2.2.2.1 z13.2.2.2.2.1 z13.2.2.2.2.2.1 len mat ask hh z7.2.2.2.2.2.2 z10.2.2.2.2.2.2 z13.2.2.2.2.2.2 hq22) (tb_V kw757 kw759 kv29 kw7 kw760) rfl rfl (by decide +kernel) ⟨Nat.le_of_ble_eq_true rfl, Nat.le_of_ble_eq_true rfl⟩ hK hP hD hS hA hE 0 rfl rfl [0, 1, 2, 3, 4, 5, 6, 7, 8] [] rfl rfl rfl 9 ⟨rfl, rfl⟩ (by decide +kernel) (by decide +kernel) rfl rfl hl.1 (Nat.le_of_ble_eq_true rfl) ⟨Nat.zero_le _, Nat.zero_le _⟩ dX5_finds_144 (fun H locs hP hD hS => ?_)
                              refine lv_iinc (v := (z13.2.2.2.2.2.2 + 1)) (lv' := [(3, .int (z13.2.2.2.2.2.2 + 1)), (0, .ref (aM 0)), (1, .int z7.2.2.2.2.2.2), (2, .int z10.2.2.2.2.2.2)]) hx hb dX5_finds_147 hl (k := 3) rfl rfl (by decide) rfl (fun ls hl => ?_)
                              refine lv_goto (tgt := 106) hx hb dX5_finds_150 (by decide) ?_
                              rw [← Option.some.inj h] at h13
                              exact ih13 (q22.1, q22.2.1, q22.2.2.1, q22.2.2.2.1, q22.2.2.2.2.1, q22.2.2.2.2.2, (z13.2.2.2.2.2.2 + 1)) _ _ _ (lp_b h13) hP hD hS (lv_sub hl [1, 2, 3, 0] rfl)
                  exact hL13 _ (z10.1, z10.2.1, z10.2.2.1, z10.2.2.2.1, z10.2.2.2.2.1, z10.2.2.2.2.2.1, (z10.2.2.2.2.2.2 + 1)) _ _ _ hq13 hP hD hS (lv_sub hl [1, 2, 3, 0] rfl)
            exact hL10 _ (z7.1, z7.2.1, z7.2.2.1, z7.2.2.2.1, z7.2.2.2.2.1, z7.2.2.2.2.2.1, (z7.2.2.2.2.2.2 + 1)) _ _ _ hq10 hP hD hS (lv_sub hl [1, 2, 0] rfl)
      exact hL7 _ (tab_6, bes_6, tic_6, bwh_6, bpr_6, bse_6, 0) _ _ _ hq7 hP hD hS (lv_sub hl [1, 0] rfl)
    refine lv_if_ne (tgt := 76) hx hb dX5_finds_44 (by decide) (fun c5 => ?_) (fun c5 => ?_)
    · replace h := (if_neg c5).symm.trans h
      exact hJ6 tab q1 tic 1 0 (-1) _ _ _ h hP hD hS (lv_sub hl [0] rfl)
    · replace h := (if_pos c5).symm.trans h
      refine lv_aload_n hx hb dX5_finds_47 rfl (lv_at hl 0 rfl) ?_
      refine va_get (D := G) (ci := 5) (v := .ref (aM 4)) (C := RX5) (T := TX5) (N := 16) hx hb hts uX5 hown hK hP 0 rfl rfl 4 (by decide) (hts _ kw583) (fun _ h9 => h9) rfl dX5_finds_48 ?_
      refine lv_iconst (v := 1) hx hb dX5_finds_51 (by decide) ?_
      obtain ⟨g24, h⟩ := gd_s h
      refine va_lald hx hb hK hP 4 1 rfl rfl (ib_in g24) dX5_finds_52 ?_
      refine lv_lconst (v := 0) hx hb dX5_finds_53 (by decide) ?_
      refine W.lcmp hx hb dX5_finds_54 ?_
      refine lv_if_ne (tgt := 76) hx hb dX5_finds_55 (by decide) (fun c25 => ?_) (fun c25 => ?_)
      · replace h := (if_neg c25).symm.trans h
        exact hJ6 tab q1 tic 1 0 (-1) _ _ _ h hP hD hS (lv_sub hl [0] rfl)
      · replace h := (if_pos c25).symm.trans h
        refine lv_aload_n hx hb dX5_finds_58 rfl (lv_at hl 0 rfl) ?_
        refine va_get (D := G) (ci := 5) (v := .ref (aM 4)) (C := RX5) (T := TX5) (N := 16) hx hb hts uX5 hown hK hP 0 rfl rfl 4 (by decide) (hts _ kw583) (fun _ h9 => h9) rfl dX5_finds_59 ?_
        refine lv_iconst (v := 2) hx hb dX5_finds_62 (by decide) ?_
        obtain ⟨g26, h⟩ := gd_s h
        refine va_lald hx hb hK hP 4 1 rfl rfl (ib_in g26) dX5_finds_63 ?_
        refine lv_lconst (v := 0) hx hb dX5_finds_64 (by decide) ?_
        refine W.lcmp hx hb dX5_finds_65 ?_
        refine lv_if_ne (tgt := 76) hx hb dX5_finds_66 (by decide) (fun c27 => ?_) (fun c27 => ?_)
        · replace h := (if_neg c27).symm.trans h
          exact hJ6 tab q1 tic 1 0 (-1) _ _ _ h hP hD hS (lv_sub hl [0] rfl)
        · replace h := (if_pos c27).symm.trans h
          refine lv_aload_n hx hb dX5_finds_69 rfl (lv_at hl 0 rfl) ?_
          refine lv_iconst (v := 0) hx hb dX5_finds_70 (by decide) ?_
          refine va_put (D := G) (ci := 5) (ty := .int) (v := .int 0) (C := RX5) (T := TX5) (N := 16) hx hb hts uX5 tyX5 tyX5_ok nmX5 hown hK hP hD hS 0 rfl rfl 8 (by decide) (hts _ kw587) (fun _ h9 => h9) rfl (by decide +kernel) rfl rfl (Nat.le_of_ble_eq_true rfl) dX5_finds_71 (fun H locs hP hD hS => ?_)
          have hP : va_P G vwCl (wM cI cJ aM row tot tab goa q1 tic txt par sav 1 0 0 len mat ask hh ++ ([] : va_W)) H := hP
          have hD : va_D A (wM cI cJ aM row tot tab goa q1 tic txt par sav 1 0 0 len mat ask hh ++ ([] : va_W)) := hD
          refine lv_iconst (v := 1) hx hb dX5_finds_74 (by decide) ?_
          rw [← Option.some.inj h]
          exact kri hx hb hr hlk rfl rfl hP hD hS hK dX5_finds_75
  have hL1 : ∀ (n : Nat) (z1 : (Nat → Int64) × Int32) (H : Heap) (locs : List Loc) (ls : Array Slot), lp f_X5_finds_b17 n z1 = some q1 → va_P G vwCl (wM cI cJ aM row tot tab goa z1.1 tic txt par sav 1 0 (-1) len mat ask hh ++ ([] : va_W)) H → va_D A (wM cI cJ aM row tot tab goa z1.1 tic txt par sav 1 0 (-1) len mat ask hh ++ ([] : va_W)) → va_S A s.heap H locs → lv_has ls 4 [(0, .ref (aM 0)), (1, .int z1.2)] → W p l ev ({ frames := 6, cells := 0, slots := 0, locals := 143 } : Room) s m ([.ref (aM 0)] : List Value).toArray below meth c H locs 0 0 (MQ below (qI G (ty5 cI cJ cZ cO cA) A (wM cI cJ aM row tot res.2.1 goa res.2.2.1 res.2.2.2.1 txt par sav res.2.2.2.2.1 res.2.2.2.2.2.1 res.2.2.2.2.2.2 len mat ask hh ++ ([] : va_W)) res.1) ([.ref (aM 0)] : List Value).toArray s 0 0 A) (F0 m 17 ls []) := by
    intro n
    induction n with
    | zero => intro z1 H locs ls h; cases h
    | succ n ih1 =>
      intro z1 H locs ls h hP hD hS hl
      obtain ⟨o1, h, h1⟩ := lp_s h
      unfold f_X5_finds_b17 at h
      refine lv_iload_n hx hb dX5_finds_17 rfl (lv_at hl 1 rfl) ?_
      refine lv_bipush (v := 8) hx hb dX5_finds_18 (by decide) ?_
      refine lv_icmp_ge (tgt := 36) hx hb dX5_finds_20 (by decide) (fun c2 => ?_) (fun c2 => ?_)
      · replace h := (if_pos c2).symm.trans h
        rw [← Option.some.inj h] at h1
        exact hX1_0 z1.1 _ _ _ (lp_x h1) hP hD hS (lv_sub hl [0] rfl)
      · replace h := (if_neg c2).symm.trans h
        refine lv_aload_n hx hb dX5_finds_23 rfl (lv_at hl 0 rfl) ?_
        refine va_get (D := G) (ci := 5) (v := .ref (aM 5)) (C := RX5) (T := TX5) (N := 16) hx hb hts uX5 hown hK hP 0 rfl rfl 5 (by decide) (hts _ kw584) (fun _ h9 => h9) rfl dX5_finds_24 ?_
        refine lv_iload_n hx hb dX5_finds_27 rfl (lv_at hl 1 rfl) ?_
        refine lv_lconst (v := 0) hx hb dX5_finds_28 (by decide) ?_
        obtain ⟨g3, h⟩ := gd_s h
        refine va_last hx hb hK hP hD hS 5 1 rfl rfl (ib_in g3) dX5_finds_29 (fun H locs hP hD hS => ?_)
        have hP : va_P G vwCl (wM cI cJ aM row tot tab goa (vp_updL z1.1 z1.2.toNatClampNeg 0) tic txt par sav 1 0 (-1) len mat ask hh ++ ([] : va_W)) H := hP
        have hD : va_D A (wM cI cJ aM row tot tab goa (vp_updL z1.1 z1.2.toNatClampNeg 0) tic txt par sav 1 0 (-1) len mat ask hh ++ ([] : va_W)) := hD
        refine lv_iinc (v := (z1.2 + 1)) (lv' := [(1, .int (z1.2 + 1)), (0, .ref (aM 0))]) hx hb dX5_finds_30 hl (k := 1) rfl rfl (by decide) rfl (fun ls hl => ?_)
        refine lv_goto (tgt := 17) hx hb dX5_finds_33 (by decide) ?_
        rw [← Option.some.inj h] at h1
        exact ih1 ((vp_updL z1.1 z1.2.toNatClampNeg 0), (z1.2 + 1)) _ _ _ (lp_b h1) hP hD hS (lv_sub hl [1, 0] rfl)
  exact hL1 _ (bes, 0) _ _ _ hq1 hP hD hS (lv_sub hl [1, 0] rfl)

/-! X5_pulseOf -/
def f_X5_pulseOf (row : Nat → Int32) (bes : Nat → Int64) (bwh : Int64) (p0 : Int32) : Option (Int32) :=
  gd (ib p0 8) (gd (nzl (2 * bwh)) ((f_X5_of row p0 5).bind (fun q3 => gd (ib p0 8) (if (lg_cmp (bes p0.toNatClampNeg) 0) = 0 then (some 0) else (if ((((2 * (bes p0.toNatClampNeg)) + bwh) / (2 * bwh)).toInt32) < q3 then (gd (ib p0 8) (if (lg_cmp (2 * (bes p0.toNatClampNeg)) (q3.toInt64 * bwh)) < 0 then (some 0) else (some q3))) else (some ((((2 * (bes p0.toNatClampNeg)) + bwh) / (2 * bwh)).toInt32)))))))

set_option maxHeartbeats 4000000 in
set_option maxRecDepth 100000 in
theorem c_X5_pulseOf (l : Launch) (G : va_G) (cI cJ cZ cO cA : ClassId) (e : Nat × Nat) (aM : Nat → Nat) (sz : Nat) (row : Nat → Int32) (tot : Nat → Int64) (tab : Nat → Int64) (goa : Nat → Int64) (bes : Nat → Int64) (tic : Nat → Int64) (txt : Nat → Int32) (par : Nat → Int32) (sav : Int32) (bwh : Int64) (bpr : Int64) (bse : Int32) (len : Int32) (mat : Int32) (ask : Int32) (hh : Int64) (p0 : Int32) {res : Int32} (hf : f_X5_pulseOf row bes bwh p0 = some res) : MetI l yX5_pulseOf cX5_pulseOf 4 .int ({ frames := 1, cells := 0, slots := 0, locals := 22 } : Room) [.ref (aM 0), .int p0] G (ty5 cI cJ cZ cO cA) e (wM cI cJ aM row tot tab goa bes tic txt par sav bwh bpr bse len mat ask hh ++ ([] : va_W)) (wM cI cJ aM row tot tab goa bes tic txt par sav bwh bpr bse len mat ask hh ++ ([] : va_W)) sz res := by
  refine g_body (QQ := fun A => (qI G (ty5 cI cJ cZ cO cA) A (wM cI cJ aM row tot tab goa bes tic txt par sav bwh bpr bse len mat ask hh ++ ([] : va_W)) res)) (own := RX5) (by decide) rfl (Nat.le_of_ble_eq_true rfl) ?_
  intro p ev s m below meth c A ls hx hb hr hml hown hts hlk hA hP hD hS hK hE hl
  have hl : lv_has ls 4 [(0, .ref (aM 0)), (1, .int p0)] := hl
  show W p l ev ({ frames := 1, cells := 0, slots := 0, locals := 22 } : Room) s m ([.ref (aM 0), .int p0] : List Value).toArray below meth c s.heap [] 0 0 (MQ below (qI G (ty5 cI cJ cZ cO cA) A (wM cI cJ aM row tot tab goa bes tic txt par sav bwh bpr bse len mat ask hh ++ ([] : va_W)) res) ([.ref (aM 0), .int p0] : List Value).toArray s 0 0 A) (F0 m 0 ls [])
  have h := hf
  unfold f_X5_pulseOf at h
  refine lv_ldc2 (v := 2) hx hb hown (hts _ kw778) dX5_pulseOf_0 ?_
  refine lv_aload_n hx hb dX5_pulseOf_3 rfl (lv_at hl 0 rfl) ?_
  refine va_get (D := G) (ci := 5) (v := .ref (aM 5)) (C := RX5) (T := TX5) (N := 16) hx hb hts uX5 hown hK hP 0 rfl rfl 5 (by decide) (hts _ kw584) (fun _ h9 => h9) rfl dX5_pulseOf_4 ?_
  refine lv_iload_n hx hb dX5_pulseOf_7 rfl (lv_at hl 1 rfl) ?_
  obtain ⟨g1, h⟩ := gd_s h
  refine va_lald hx hb hK hP 5 1 rfl rfl (ib_in g1) dX5_pulseOf_8 ?_
  refine lv_lmul hx hb dX5_pulseOf_9 ?_
  refine lv_aload_n hx hb dX5_pulseOf_10 rfl (lv_at hl 0 rfl) ?_
  refine va_get (D := G) (ci := 5) (v := .long bwh) (C := RX5) (T := TX5) (N := 16) hx hb hts uX5 hown hK hP 0 rfl rfl 6 (by decide) (hts _ kw585) (fun _ h9 => h9) rfl dX5_pulseOf_11 ?_
  refine lv_ladd hx hb dX5_pulseOf_14 ?_
  refine lv_ldc2 (v := 2) hx hb hown (hts _ kw778) dX5_pulseOf_15 ?_
  refine lv_aload_n hx hb dX5_pulseOf_18 rfl (lv_at hl 0 rfl) ?_
  refine va_get (D := G) (ci := 5) (v := .long bwh) (C := RX5) (T := TX5) (N := 16) hx hb hts uX5 hown hK hP 0 rfl rfl 6 (by decide) (hts _ kw585) (fun _ h9 => h9) rfl dX5_pulseOf_19 ?_
  refine lv_lmul hx hb dX5_pulseOf_22 ?_
  obtain ⟨g2, h⟩ := gd_s h
  refine lv_ldiv hx hb dX5_pulseOf_23 (nzl_s g2) ?_
  refine lv_l2i (v := (((2 * (bes p0.toNatClampNeg)) + bwh) / (2 * bwh)).toInt32) hx hb dX5_pulseOf_24 rfl ?_
  refine lv_istore_n (lv' := [(2, .int ((((2 * (bes p0.toNatClampNeg)) + bwh) / (2 * bwh)).toInt32)), (0, .ref (aM 0)), (1, .int p0)]) hx hb dX5_pulseOf_25 rfl hl (by decide) rfl (fun ls hl => ?_)
  refine lv_aload_n hx hb dX5_pulseOf_26 rfl (lv_at hl 1 rfl) ?_
  refine lv_iload_n hx hb dX5_pulseOf_27 rfl (lv_at hl 2 rfl) ?_
  refine lv_iconst (v := 5) hx hb dX5_pulseOf_28 (by decide) ?_
  obtain ⟨q3, hq3, h⟩ := bd_s h
  refine kVi (n := 2) (C := RX5) (ws' := wM cI cJ aM row tot tab goa bes tic txt par sav bwh bpr bse len mat ask hh ++ ([] : va_W)) (As := [.int p0, .int 5]) (rest := []) hx hb hml hown hts (c_X5_of l G cI cJ cZ cO cA e aM _ row tot tab goa bes tic txt par sav bwh bpr bse len mat ask hh p0 5 hq3) (tb_V kw657 kw659 kv17 kw7 kw660) rfl rfl (by decide +kernel) ⟨Nat.le_of_ble_eq_true rfl, Nat.le_of_ble_eq_true rfl⟩ hK hP hD hS hA hE 0 rfl rfl [0, 1, 2, 3, 4, 5, 6, 7, 8] [] rfl rfl rfl 9 ⟨rfl, rfl⟩ (by decide +kernel) (by decide +kernel) rfl rfl hl.1 (Nat.le_of_ble_eq_true rfl) ⟨Nat.zero_le _, Nat.zero_le _⟩ dX5_pulseOf_29 (fun H locs hP hD hS => ?_)
  refine lv_istore_n (lv' := [(3, .int q3), (2, .int ((((2 * (bes p0.toNatClampNeg)) + bwh) / (2 * bwh)).toInt32)), (0, .ref (aM 0)), (1, .int p0)]) hx hb dX5_pulseOf_32 rfl hl (by decide) rfl (fun ls hl => ?_)
  refine lv_aload_n hx hb dX5_pulseOf_33 rfl (lv_at hl 2 rfl) ?_
  refine va_get (D := G) (ci := 5) (v := .ref (aM 5)) (C := RX5) (T := TX5) (N := 16) hx hb hts uX5 hown hK hP 0 rfl rfl 5 (by decide) (hts _ kw584) (fun _ h9 => h9) rfl dX5_pulseOf_34 ?_
  refine lv_iload_n hx hb dX5_pulseOf_37 rfl (lv_at hl 3 rfl) ?_
  obtain ⟨g4, h⟩ := gd_s h
  refine va_lald hx hb hK hP 5 1 rfl rfl (ib_in g4) dX5_pulseOf_38 ?_
  refine lv_lconst (v := 0) hx hb dX5_pulseOf_39 (by decide) ?_
  refine W.lcmp hx hb dX5_pulseOf_40 ?_
  refine lv_if_ne (tgt := 48) hx hb dX5_pulseOf_41 (by decide) (fun c5 => ?_) (fun c5 => ?_)
  · replace h := (if_neg c5).symm.trans h
    refine lv_iload_n hx hb dX5_pulseOf_48 rfl (lv_at hl 1 rfl) ?_
    refine lv_iload_n hx hb dX5_pulseOf_49 rfl (lv_at hl 0 rfl) ?_
    refine lv_icmp_lt (tgt := 57) hx hb dX5_pulseOf_50 (by decide) (fun c6 => ?_) (fun c6 => ?_)
    · replace h := (if_pos c6).symm.trans h
      refine lv_ldc2 (v := 2) hx hb hown (hts _ kw778) dX5_pulseOf_57 ?_
      refine lv_aload_n hx hb dX5_pulseOf_60 rfl (lv_at hl 2 rfl) ?_
      refine va_get (D := G) (ci := 5) (v := .ref (aM 5)) (C := RX5) (T := TX5) (N := 16) hx hb hts uX5 hown hK hP 0 rfl rfl 5 (by decide) (hts _ kw584) (fun _ h9 => h9) rfl dX5_pulseOf_61 ?_
      refine lv_iload_n hx hb dX5_pulseOf_64 rfl (lv_at hl 3 rfl) ?_
      obtain ⟨g7, h⟩ := gd_s h
      refine va_lald hx hb hK hP 5 1 rfl rfl (ib_in g7) dX5_pulseOf_65 ?_
      refine lv_lmul hx hb dX5_pulseOf_66 ?_
      refine lv_iload_n hx hb dX5_pulseOf_67 rfl (lv_at hl 0 rfl) ?_
      refine lv_i2l (v := q3.toInt64) hx hb dX5_pulseOf_68 rfl ?_
      refine lv_aload_n hx hb dX5_pulseOf_69 rfl (lv_at hl 2 rfl) ?_
      refine va_get (D := G) (ci := 5) (v := .long bwh) (C := RX5) (T := TX5) (N := 16) hx hb hts uX5 hown hK hP 0 rfl rfl 6 (by decide) (hts _ kw585) (fun _ h9 => h9) rfl dX5_pulseOf_70 ?_
      refine lv_lmul hx hb dX5_pulseOf_73 ?_
      refine W.lcmp hx hb dX5_pulseOf_74 ?_
      refine lv_if_lt (tgt := 82) hx hb dX5_pulseOf_75 (by decide) (fun c8 => ?_) (fun c8 => ?_)
      · replace h := (if_pos c8).symm.trans h
        refine lv_iconst (v := 0) hx hb dX5_pulseOf_82 (by decide) ?_
        rw [← Option.some.inj h]
        exact kri hx hb hr hlk rfl rfl hP hD hS hK dX5_pulseOf_83
      · replace h := (if_neg c8).symm.trans h
        refine lv_iload_n hx hb dX5_pulseOf_78 rfl (lv_at hl 0 rfl) ?_
        refine lv_goto (tgt := 83) hx hb dX5_pulseOf_79 (by decide) ?_
        rw [← Option.some.inj h]
        exact kri hx hb hr hlk rfl rfl hP hD hS hK dX5_pulseOf_83
    · replace h := (if_neg c6).symm.trans h
      refine lv_iload_n hx hb dX5_pulseOf_53 rfl (lv_at hl 1 rfl) ?_
      refine lv_goto (tgt := 83) hx hb dX5_pulseOf_54 (by decide) ?_
      rw [← Option.some.inj h]
      exact kri hx hb hr hlk rfl rfl hP hD hS hK dX5_pulseOf_83
  · replace h := (if_pos c5).symm.trans h
    refine lv_iconst (v := 0) hx hb dX5_pulseOf_44 (by decide) ?_
    refine lv_goto (tgt := 83) hx hb dX5_pulseOf_45 (by decide) ?_
    rw [← Option.some.inj h]
    exact kri hx hb hr hlk rfl rfl hP hD hS hK dX5_pulseOf_83

/-! X5_isTarget -/
def f_X5_isTarget (p0 : Int32) (p1 : Int32) (p2 : Int32) : Option (Int32) :=
  (f_X5_in p0 (-40000) 40000).bind (fun q1 => if q1 = 0 then (some 0) else ((f_X5_in p1 (-40000) 40000).bind (fun q3 => if q3 = 0 then (some 0) else ((f_X5_in p2 (-40000) 40000).bind (fun q5 => if q5 = 0 then (some 0) else (some 1))))))

set_option maxHeartbeats 4000000 in
set_option maxRecDepth 100000 in
theorem c_X5_isTarget (l : Launch) (G : va_G) (cI cJ cZ cO cA : ClassId) (e : Nat × Nat) (sz : Nat) (p0 : Int32) (p1 : Int32) (p2 : Int32) {res : Int32} (hf : f_X5_isTarget p0 p1 p2 = some res) : MetI l yX5_isTarget cX5_isTarget 3 .boolean ({ frames := 1, cells := 0, slots := 0, locals := 22 } : Room) [.int p0, .int p1, .int p2] G (ty5 cI cJ cZ cO cA) e (([] : va_W)) (([] : va_W)) sz res := by
  refine g_body (QQ := fun A => (qI G (ty5 cI cJ cZ cO cA) A (([] : va_W)) res)) (own := RX5) (by decide) rfl (Nat.le_of_ble_eq_true rfl) ?_
  intro p ev s m below meth c A ls hx hb hr hml hown hts hlk hA hP hD hS hK hE hl
  have hl : lv_has ls 3 [(0, .int p0), (1, .int p1), (2, .int p2)] := hl
  show W p l ev ({ frames := 1, cells := 0, slots := 0, locals := 22 } : Room) s m ([.int p0, .int p1, .int p2] : List Value).toArray below meth c s.heap [] 0 0 (MQ below (qI G (ty5 cI cJ cZ cO cA) A (([] : va_W)) res) ([.int p0, .int p1, .int p2] : List Value).toArray s 0 0 A) (F0 m 0 ls [])
  have h := hf
  unfold f_X5_isTarget at h
  refine lv_iload_n hx hb dX5_isTarget_0 rfl (lv_at hl 0 rfl) ?_
  refine lv_ldc (v := (-40000)) hx hb hown (hts _ kw747) dX5_isTarget_1 ?_
  refine lv_ldc (v := 40000) hx hb hown (hts _ kw748) dX5_isTarget_3 ?_
  obtain ⟨q1, hq1, h⟩ := bd_s h
  refine kSi (n := 3) (As := [.int p0, .int (-40000), .int 40000]) (rest := []) hx hb hml hown hts (c_X5_in l G cI cJ cZ cO cA e _ p0 (-40000) 40000 hq1) (tb_S kw635 kw636 kw7 kw637) rfl rfl (by decide +kernel) ⟨Nat.le_of_ble_eq_true rfl, Nat.le_of_ble_eq_true rfl⟩ hK hP hD hS hA hE rfl rfl hl.1 (Nat.le_of_ble_eq_true rfl) ⟨Nat.zero_le _, Nat.zero_le _⟩ dX5_isTarget_5 (fun H locs hP hD hS => ?_)
  refine lv_if_eq (tgt := 37) hx hb dX5_isTarget_8 (by decide) (fun c2 => ?_) (fun c2 => ?_)
  · replace h := (if_pos c2).symm.trans h
    refine lv_iconst (v := 0) hx hb dX5_isTarget_37 (by decide) ?_
    rw [← Option.some.inj h]
    exact kri hx hb hr hlk rfl rfl hP hD hS hK dX5_isTarget_38
  · replace h := (if_neg c2).symm.trans h
    refine lv_iload_n hx hb dX5_isTarget_11 rfl (lv_at hl 1 rfl) ?_
    refine lv_ldc (v := (-40000)) hx hb hown (hts _ kw747) dX5_isTarget_12 ?_
    refine lv_ldc (v := 40000) hx hb hown (hts _ kw748) dX5_isTarget_14 ?_
    obtain ⟨q3, hq3, h⟩ := bd_s h
    refine kSi (n := 3) (As := [.int p1, .int (-40000), .int 40000]) (rest := []) hx hb hml hown hts (c_X5_in l G cI cJ cZ cO cA e _ p1 (-40000) 40000 hq3) (tb_S kw635 kw636 kw7 kw637) rfl rfl (by decide +kernel) ⟨Nat.le_of_ble_eq_true rfl, Nat.le_of_ble_eq_true rfl⟩ hK hP hD hS hA hE rfl rfl hl.1 (Nat.le_of_ble_eq_true rfl) ⟨Nat.zero_le _, Nat.zero_le _⟩ dX5_isTarget_16 (fun H locs hP hD hS => ?_)
    refine lv_if_eq (tgt := 37) hx hb dX5_isTarget_19 (by decide) (fun c4 => ?_) (fun c4 => ?_)
    · replace h := (if_pos c4).symm.trans h
      refine lv_iconst (v := 0) hx hb dX5_isTarget_37 (by decide) ?_
      rw [← Option.some.inj h]
      exact kri hx hb hr hlk rfl rfl hP hD hS hK dX5_isTarget_38
    · replace h := (if_neg c4).symm.trans h
      refine lv_iload_n hx hb dX5_isTarget_22 rfl (lv_at hl 2 rfl) ?_
      refine lv_ldc (v := (-40000)) hx hb hown (hts _ kw747) dX5_isTarget_23 ?_
      refine lv_ldc (v := 40000) hx hb hown (hts _ kw748) dX5_isTarget_25 ?_
      obtain ⟨q5, hq5, h⟩ := bd_s h
      refine kSi (n := 3) (As := [.int p2, .int (-40000), .int 40000]) (rest := []) hx hb hml hown hts (c_X5_in l G cI cJ cZ cO cA e _ p2 (-40000) 40000 hq5) (tb_S kw635 kw636 kw7 kw637) rfl rfl (by decide +kernel) ⟨Nat.le_of_ble_eq_true rfl, Nat.le_of_ble_eq_true rfl⟩ hK hP hD hS hA hE rfl rfl hl.1 (Nat.le_of_ble_eq_true rfl) ⟨Nat.zero_le _, Nat.zero_le _⟩ dX5_isTarget_27 (fun H locs hP hD hS => ?_)
      refine lv_if_eq (tgt := 37) hx hb dX5_isTarget_30 (by decide) (fun c6 => ?_) (fun c6 => ?_)
      · replace h := (if_pos c6).symm.trans h
        refine lv_iconst (v := 0) hx hb dX5_isTarget_37 (by decide) ?_
        rw [← Option.some.inj h]
        exact kri hx hb hr hlk rfl rfl hP hD hS hK dX5_isTarget_38
      · replace h := (if_neg c6).symm.trans h
        refine lv_iconst (v := 1) hx hb dX5_isTarget_33 (by decide) ?_
        refine lv_goto (tgt := 38) hx hb dX5_isTarget_34 (by decide) ?_
        rw [← Option.some.inj h]
        exact kri hx hb hr hlk rfl rfl hP hD hS hK dX5_isTarget_38

/-! X5_select -/
def f_X5_select (row : Nat → Int32) (tab : Nat → Int64) (goa : Nat → Int64) (bes : Nat → Int64) (tic : Nat → Int64) (bwh : Int64) (bpr : Int64) (bse : Int32) (p0 : Int32) (p1 : Int32) (p2 : Int32) : Option (Int32 × (Nat → Int64) × (Nat → Int64) × (Nat → Int64) × (Nat → Int64) × Int64 × Int64 × Int32) :=
  (f_X5_isTarget p0 p1 p2).bind (fun q1 => if q1 = 0 then (some ((-2000000002), tab, goa, bes, tic, bwh, bpr, bse)) else ((f_X5_aims goa p0 p1 p2).bind (fun q3 => (f_X5_finds row q3 tab bes tic bwh bpr bse).bind (fun q4 => if q4.1 = 0 then (some ((-2000000000), q4.2.1, q3, q4.2.2.1, q4.2.2.2.1, q4.2.2.2.2.1, q4.2.2.2.2.2.1, q4.2.2.2.2.2.2)) else (some (q4.2.2.2.2.2.2, q4.2.1, q3, q4.2.2.1, q4.2.2.2.1, q4.2.2.2.2.1, q4.2.2.2.2.2.1, q4.2.2.2.2.2.2))))))

set_option maxHeartbeats 4000000 in
set_option maxRecDepth 100000 in
theorem c_X5_select (l : Launch) (G : va_G) (cI cJ cZ cO cA : ClassId) (e : Nat × Nat) (aM : Nat → Nat) (sz : Nat) (row : Nat → Int32) (tot : Nat → Int64) (tab : Nat → Int64) (goa : Nat → Int64) (bes : Nat → Int64) (tic : Nat → Int64) (txt : Nat → Int32) (par : Nat → Int32) (sav : Int32) (bwh : Int64) (bpr : Int64) (bse : Int32) (len : Int32) (mat : Int32) (ask : Int32) (hh : Int64) (p0 : Int32) (p1 : Int32) (p2 : Int32) {res : Int32 × (Nat → Int64) × (Nat → Int64) × (Nat → Int64) × (Nat → Int64) × Int64 × Int64 × Int32} (hf : f_X5_select row tab goa bes tic bwh bpr bse p0 p1 p2 = some res) : MetI l yX5_select cX5_select 4 .int ({ frames := 7, cells := 0, slots := 0, locals := 166 } : Room) [.ref (aM 0), .int p0, .int p1, .int p2] G (ty5 cI cJ cZ cO cA) e (wM cI cJ aM row tot tab goa bes tic txt par sav bwh bpr bse len mat ask hh ++ ([] : va_W)) (wM cI cJ aM row tot res.2.1 res.2.2.1 res.2.2.2.1 res.2.2.2.2.1 txt par sav res.2.2.2.2.2.1 res.2.2.2.2.2.2.1 res.2.2.2.2.2.2.2 len mat ask hh ++ ([] : va_W)) sz res.1 := by
  refine g_body (QQ := fun A => (qI G (ty5 cI cJ cZ cO cA) A (wM cI cJ aM row tot res.2.1 res.2.2.1 res.2.2.2.1 res.2.2.2.2.1 txt par sav res.2.2.2.2.2.1 res.2.2.2.2.2.2.1 res.2.2.2.2.2.2.2 len mat ask hh ++ ([] : va_W)) res.1)) (own := RX5) (by decide) rfl (Nat.le_of_ble_eq_true rfl) ?_
  intro p ev s m below meth c A ls hx hb hr hml hown hts hlk hA hP hD hS hK hE hl
  have hl : lv_has ls 4 [(0, .ref (aM 0)), (1, .int p0), (2, .int p1), (3, .int p2)] := hl
  show W p l ev ({ frames := 7, cells := 0, slots := 0, locals := 166 } : Room) s m ([.ref (aM 0), .int p0, .int p1, .int p2] : List Value).toArray below meth c s.heap [] 0 0 (MQ below (qI G (ty5 cI cJ cZ cO cA) A (wM cI cJ aM row tot res.2.1 res.2.2.1 res.2.2.2.1 res.2.2.2.2.1 txt par sav res.2.2.2.2.2.1 res.2.2.2.2.2.2.1 res.2.2.2.2.2.2.2 len mat ask hh ++ ([] : va_W)) res.1) ([.ref (aM 0), .int p0, .int p1, .int p2] : List Value).toArray s 0 0 A) (F0 m 0 ls [])
  have h := hf
  unfold f_X5_select at h
  refine lv_iload_n hx hb dX5_select_0 rfl (lv_at hl 1 rfl) ?_
  refine lv_iload_n hx hb dX5_select_1 rfl (lv_at hl 2 rfl) ?_
  refine lv_iload_n hx hb dX5_select_2 rfl (lv_at hl 3 rfl) ?_
  obtain ⟨q1, hq1, h⟩ := bd_s h
  refine kSi (n := 3) (As := [.int p0, .int p1, .int p2]) (rest := []) hx hb hml hown hts (c_X5_isTarget l G cI cJ cZ cO cA e _ p0 p1 p2 hq1) (tb_S kw744 kw745 kw7 kw746) rfl rfl (by decide +kernel) ⟨Nat.le_of_ble_eq_true rfl, Nat.le_of_ble_eq_true rfl⟩ hK hP hD hS hA hE rfl rfl hl.1 (Nat.le_of_ble_eq_true rfl) ⟨Nat.zero_le _, Nat.zero_le _⟩ dX5_select_3 (fun H locs hP hD hS => ?_)
  refine lv_if_ne (tgt := 12) hx hb dX5_select_6 (by decide) (fun c2 => ?_) (fun c2 => ?_)
  · replace h := (if_neg c2).symm.trans h
    refine lv_aload_n hx hb dX5_select_12 rfl (lv_at hl 0 rfl) ?_
    refine lv_iload_n hx hb dX5_select_13 rfl (lv_at hl 1 rfl) ?_
    refine lv_iload_n hx hb dX5_select_14 rfl (lv_at hl 2 rfl) ?_
    refine lv_iload_n hx hb dX5_select_15 rfl (lv_at hl 3 rfl) ?_
    obtain ⟨q3, hq3, h⟩ := bd_s h
    refine kVv (n := 3) (C := RX5) (ws' := wM cI cJ aM row tot tab q3 bes tic txt par sav bwh bpr bse len mat ask hh ++ ([] : va_W)) (As := [.int p0, .int p1, .int p2]) (rest := []) hx hb hml hown hts (c_X5_aims l G cI cJ cZ cO cA e aM _ row tot tab goa bes tic txt par sav bwh bpr bse len mat ask hh p0 p1 p2 hq3) (tb_V kw749 kw751 kv27 kw7 kw752) rfl rfl (by decide +kernel) ⟨Nat.le_of_ble_eq_true rfl, Nat.le_of_ble_eq_true rfl⟩ hK hP hD hS hA hE 0 rfl rfl [0, 1, 2, 3, 4, 5, 6, 7, 8] [] rfl rfl rfl 9 ⟨rfl, rfl⟩ (by decide +kernel) (by decide +kernel) rfl rfl hl.1 (Nat.le_of_ble_eq_true rfl) ⟨Nat.zero_le _, Nat.zero_le _⟩ dX5_select_16 (fun H locs hP hD hS => ?_)
    refine lv_aload_n hx hb dX5_select_19 rfl (lv_at hl 0 rfl) ?_
    obtain ⟨q4, hq4, h⟩ := bd_s h
    refine kVi (n := 0) (C := RX5) (ws' := wM cI cJ aM row tot q4.2.1 q3 q4.2.2.1 q4.2.2.2.1 txt par sav q4.2.2.2.2.1 q4.2.2.2.2.2.1 q4.2.2.2.2.2.2 len mat ask hh ++ ([] : va_W)) (As := []) (rest := []) hx hb hml hown hts (c_X5_finds l G cI cJ cZ cO cA e aM _ row tot tab q3 bes tic txt par sav bwh bpr bse len mat ask hh hq4) (tb_V kw753 kw755 kv28 kw7 kw756) rfl rfl (by decide +kernel) ⟨Nat.le_of_ble_eq_true rfl, Nat.le_of_ble_eq_true rfl⟩ hK hP hD hS hA hE 0 rfl rfl [0, 1, 2, 3, 4, 5, 6, 7, 8] [] rfl rfl rfl 9 ⟨rfl, rfl⟩ (by decide +kernel) (by decide +kernel) rfl rfl hl.1 (Nat.le_of_ble_eq_true rfl) ⟨Nat.zero_le _, Nat.zero_le _⟩ dX5_select_20 (fun H locs hP hD hS => ?_)
    refine lv_if_eq (tgt := 33) hx hb dX5_select_23 (by decide) (fun c5 => ?_) (fun c5 => ?_)
    · replace h := (if_pos c5).symm.trans h
      refine lv_ldc (v := (-2000000000)) hx hb hown (hts _ kw769) dX5_select_33 ?_
      rw [← Option.some.inj h]
      exact kri hx hb hr hlk rfl rfl hP hD hS hK dX5_select_35
    · replace h := (if_neg c5).symm.trans h
      refine lv_aload_n hx hb dX5_select_26 rfl (lv_at hl 0 rfl) ?_
      refine va_get (D := G) (ci := 5) (v := .int q4.2.2.2.2.2.2) (C := RX5) (T := TX5) (N := 16) hx hb hts uX5 hown hK hP 0 rfl rfl 8 (by decide) (hts _ kw587) (fun _ h9 => h9) rfl dX5_select_27 ?_
      refine lv_goto (tgt := 35) hx hb dX5_select_30 (by decide) ?_
      rw [← Option.some.inj h]
      exact kri hx hb hr hlk rfl rfl hP hD hS hK dX5_select_35
  · replace h := (if_pos c2).symm.trans h
    refine lv_ldc (v := (-2000000002)) hx hb hown (hts _ kw639) dX5_select_9 ?_
    rw [← Option.some.inj h]
    exact kri hx hb hr hlk rfl rfl hP hD hS hK dX5_select_11

/-! X5_pulse -/
def f_X5_pulse (row : Nat → Int32) (tab : Nat → Int64) (goa : Nat → Int64) (bes : Nat → Int64) (tic : Nat → Int64) (bwh : Int64) (bpr : Int64) (bse : Int32) (p0 : Int32) (p1 : Int32) (p2 : Int32) (p3 : Int32) : Option (Int32 × (Nat → Int64) × (Nat → Int64) × (Nat → Int64) × (Nat → Int64) × Int64 × Int64 × Int32) :=
  (f_X5_isThruster row p3).bind (fun q1 => if q1 = 0 then (some ((-2000000001), tab, goa, bes, tic, bwh, bpr, bse)) else ((f_X5_isTarget p0 p1 p2).bind (fun q3 => if q3 = 0 then (some ((-2000000002), tab, goa, bes, tic, bwh, bpr, bse)) else ((f_X5_aims goa p0 p1 p2).bind (fun q5 => (f_X5_finds row q5 tab bes tic bwh bpr bse).bind (fun q6 => if q6.1 = 0 then (some ((-2000000000), q6.2.1, q5, q6.2.2.1, q6.2.2.2.1, q6.2.2.2.2.1, q6.2.2.2.2.2.1, q6.2.2.2.2.2.2)) else ((f_X5_pulseOf row q6.2.2.1 q6.2.2.2.2.1 p3).bind (fun q8 => some (q8, q6.2.1, q5, q6.2.2.1, q6.2.2.2.1, q6.2.2.2.2.1, q6.2.2.2.2.2.1, q6.2.2.2.2.2.2)))))))))

set_option maxHeartbeats 4000000 in
set_option maxRecDepth 100000 in
theorem c_X5_pulse (l : Launch) (G : va_G) (cI cJ cZ cO cA : ClassId) (e : Nat × Nat) (aM : Nat → Nat) (sz : Nat) (row : Nat → Int32) (tot : Nat → Int64) (tab : Nat → Int64) (goa : Nat → Int64) (bes : Nat → Int64) (tic : Nat → Int64) (txt : Nat → Int32) (par : Nat → Int32) (sav : Int32) (bwh : Int64) (bpr : Int64) (bse : Int32) (len : Int32) (mat : Int32) (ask : Int32) (hh : Int64) (p0 : Int32) (p1 : Int32) (p2 : Int32) (p3 : Int32) {res : Int32 × (Nat → Int64) × (Nat → Int64) × (Nat → Int64) × (Nat → Int64) × Int64 × Int64 × Int32} (hf : f_X5_pulse row tab goa bes tic bwh bpr bse p0 p1 p2 p3 = some res) : MetI l yX5_pulse cX5_pulse 5 .int ({ frames := 7, cells := 0, slots := 0, locals := 166 } : Room) [.ref (aM 0), .int p0, .int p1, .int p2, .int p3] G (ty5 cI cJ cZ cO cA) e (wM cI cJ aM row tot tab goa bes tic txt par sav bwh bpr bse len mat ask hh ++ ([] : va_W)) (wM cI cJ aM row tot res.2.1 res.2.2.1 res.2.2.2.1 res.2.2.2.2.1 txt par sav res.2.2.2.2.2.1 res.2.2.2.2.2.2.1 res.2.2.2.2.2.2.2 len mat ask hh ++ ([] : va_W)) sz res.1 := by
  refine g_body (QQ := fun A => (qI G (ty5 cI cJ cZ cO cA) A (wM cI cJ aM row tot res.2.1 res.2.2.1 res.2.2.2.1 res.2.2.2.2.1 txt par sav res.2.2.2.2.2.1 res.2.2.2.2.2.2.1 res.2.2.2.2.2.2.2 len mat ask hh ++ ([] : va_W)) res.1)) (own := RX5) (by decide) rfl (Nat.le_of_ble_eq_true rfl) ?_
  intro p ev s m below meth c A ls hx hb hr hml hown hts hlk hA hP hD hS hK hE hl
  have hl : lv_has ls 5 [(0, .ref (aM 0)), (1, .int p0), (2, .int p1), (3, .int p2), (4, .int p3)] := hl
  show W p l ev ({ frames := 7, cells := 0, slots := 0, locals := 166 } : Room) s m ([.ref (aM 0), .int p0, .int p1, .int p2, .int p3] : List Value).toArray below meth c s.heap [] 0 0 (MQ below (qI G (ty5 cI cJ cZ cO cA) A (wM cI cJ aM row tot res.2.1 res.2.2.1 res.2.2.2.1 res.2.2.2.2.1 txt par sav res.2.2.2.2.2.1 res.2.2.2.2.2.2.1 res.2.2.2.2.2.2.2 len mat ask hh ++ ([] : va_W)) res.1) ([.ref (aM 0), .int p0, .int p1, .int p2, .int p3] : List Value).toArray s 0 0 A) (F0 m 0 ls [])
  have h := hf
  unfold f_X5_pulse at h
  refine lv_aload_n hx hb dX5_pulse_0 rfl (lv_at hl 0 rfl) ?_
  refine lv_iload hx hb dX5_pulse_1 (lv_at hl 4 rfl) ?_
  obtain ⟨q1, hq1, h⟩ := bd_s h
  refine kVi (n := 1) (C := RX5) (ws' := wM cI cJ aM row tot tab goa bes tic txt par sav bwh bpr bse len mat ask hh ++ ([] : va_W)) (As := [.int p3]) (rest := []) hx hb hml hown hts (c_X5_isThruster l G cI cJ cZ cO cA e aM _ row tot tab goa bes tic txt par sav bwh bpr bse len mat ask hh p3 hq1) (tb_V kw653 kw655 kv16 kw7 kw656) rfl rfl (by decide +kernel) ⟨Nat.le_of_ble_eq_true rfl, Nat.le_of_ble_eq_true rfl⟩ hK hP hD hS hA hE 0 rfl rfl [0, 1, 2, 3, 4, 5, 6, 7, 8] [] rfl rfl rfl 9 ⟨rfl, rfl⟩ (by decide +kernel) (by decide +kernel) rfl rfl hl.1 (Nat.le_of_ble_eq_true rfl) ⟨Nat.zero_le _, Nat.zero_le _⟩ dX5_pulse_3 (fun H locs hP hD hS => ?_)
  refine lv_if_ne (tgt := 12) hx hb dX5_pulse_6 (by decide) (fun c2 => ?_) (fun c2 => ?_)
  · replace h := (if_neg c2).symm.trans h
    refine lv_iload_n hx hb dX5_pulse_12 rfl (lv_at hl 1 rfl) ?_
    refine lv_iload_n hx hb dX5_pulse_13 rfl (lv_at hl 2 rfl) ?_
    refine lv_iload_n hx hb dX5_pulse_14 rfl (lv_at hl 3 rfl) ?_
    obtain ⟨q3, hq3, h⟩ := bd_s h
    refine kSi (n := 3) (As := [.int p0, .int p1, .int p2]) (rest := []) hx hb hml hown hts (c_X5_isTarget l G cI cJ cZ cO cA e _ p0 p1 p2 hq3) (tb_S kw744 kw745 kw7 kw746) rfl rfl (by decide +kernel) ⟨Nat.le_of_ble_eq_true rfl, Nat.le_of_ble_eq_true rfl⟩ hK hP hD hS hA hE rfl rfl hl.1 (Nat.le_of_ble_eq_true rfl) ⟨Nat.zero_le _, Nat.zero_le _⟩ dX5_pulse_15 (fun H locs hP hD hS => ?_)
    refine lv_if_ne (tgt := 24) hx hb dX5_pulse_18 (by decide) (fun c4 => ?_) (fun c4 => ?_)
    · replace h := (if_neg c4).symm.trans h
      refine lv_aload_n hx hb dX5_pulse_24 rfl (lv_at hl 0 rfl) ?_
      refine lv_iload_n hx hb dX5_pulse_25 rfl (lv_at hl 1 rfl) ?_
      refine lv_iload_n hx hb dX5_pulse_26 rfl (lv_at hl 2 rfl) ?_
      refine lv_iload_n hx hb dX5_pulse_27 rfl (lv_at hl 3 rfl) ?_
      obtain ⟨q5, hq5, h⟩ := bd_s h
      refine kVv (n := 3) (C := RX5) (ws' := wM cI cJ aM row tot tab q5 bes tic txt par sav bwh bpr bse len mat ask hh ++ ([] : va_W)) (As := [.int p0, .int p1, .int p2]) (rest := []) hx hb hml hown hts (c_X5_aims l G cI cJ cZ cO cA e aM _ row tot tab goa bes tic txt par sav bwh bpr bse len mat ask hh p0 p1 p2 hq5) (tb_V kw749 kw751 kv27 kw7 kw752) rfl rfl (by decide +kernel) ⟨Nat.le_of_ble_eq_true rfl, Nat.le_of_ble_eq_true rfl⟩ hK hP hD hS hA hE 0 rfl rfl [0, 1, 2, 3, 4, 5, 6, 7, 8] [] rfl rfl rfl 9 ⟨rfl, rfl⟩ (by decide +kernel) (by decide +kernel) rfl rfl hl.1 (Nat.le_of_ble_eq_true rfl) ⟨Nat.zero_le _, Nat.zero_le _⟩ dX5_pulse_28 (fun H locs hP hD hS => ?_)
      refine lv_aload_n hx hb dX5_pulse_31 rfl (lv_at hl 0 rfl) ?_
      obtain ⟨q6, hq6, h⟩ := bd_s h
      refine kVi (n := 0) (C := RX5) (ws' := wM cI cJ aM row tot q6.2.1 q5 q6.2.2.1 q6.2.2.2.1 txt par sav q6.2.2.2.2.1 q6.2.2.2.2.2.1 q6.2.2.2.2.2.2 len mat ask hh ++ ([] : va_W)) (As := []) (rest := []) hx hb hml hown hts (c_X5_finds l G cI cJ cZ cO cA e aM _ row tot tab q5 bes tic txt par sav bwh bpr bse len mat ask hh hq6) (tb_V kw753 kw755 kv28 kw7 kw756) rfl rfl (by decide +kernel) ⟨Nat.le_of_ble_eq_true rfl, Nat.le_of_ble_eq_true rfl⟩ hK hP hD hS hA hE 0 rfl rfl [0, 1, 2, 3, 4, 5, 6, 7, 8] [] rfl rfl rfl 9 ⟨rfl, rfl⟩ (by decide +kernel) (by decide +kernel) rfl rfl hl.1 (Nat.le_of_ble_eq_true rfl) ⟨Nat.zero_le _, Nat.zero_le _⟩ dX5_pulse_32 (fun H locs hP hD hS => ?_)
      refine lv_if_eq (tgt := 47) hx hb dX5_pulse_35 (by decide) (fun c7 => ?_) (fun c7 => ?_)
      · replace h := (if_pos c7).symm.trans h
        refine lv_ldc (v := (-2000000000)) hx hb hown (hts _ kw769) dX5_pulse_47 ?_
        rw [← Option.some.inj h]
        exact kri hx hb hr hlk rfl rfl hP hD hS hK dX5_pulse_49
      · replace h := (if_neg c7).symm.trans h
        refine lv_aload_n hx hb dX5_pulse_38 rfl (lv_at hl 0 rfl) ?_
        refine lv_iload hx hb dX5_pulse_39 (lv_at hl 4 rfl) ?_
        obtain ⟨q8, hq8, h⟩ := bd_s h
        refine kVi (n := 1) (C := RX5) (ws' := wM cI cJ aM row tot q6.2.1 q5 q6.2.2.1 q6.2.2.2.1 txt par sav q6.2.2.2.2.1 q6.2.2.2.2.2.1 q6.2.2.2.2.2.2 len mat ask hh ++ ([] : va_W)) (As := [.int p3]) (rest := []) hx hb hml hown hts (c_X5_pulseOf l G cI cJ cZ cO cA e aM _ row tot q6.2.1 q5 q6.2.2.1 q6.2.2.2.1 txt par sav q6.2.2.2.2.1 q6.2.2.2.2.2.1 q6.2.2.2.2.2.2 len mat ask hh p3 hq8) (tb_V kw774 kw776 kv31 kw7 kw777) rfl rfl (by decide +kernel) ⟨Nat.le_of_ble_eq_true rfl, Nat.le_of_ble_eq_true rfl⟩ hK hP hD hS hA hE 0 rfl rfl [0, 1, 2, 3, 4, 5, 6, 7, 8] [] rfl rfl rfl 9 ⟨rfl, rfl⟩ (by decide +kernel) (by decide +kernel) rfl rfl hl.1 (Nat.le_of_ble_eq_true rfl) ⟨Nat.zero_le _, Nat.zero_le _⟩ dX5_pulse_41 (fun H locs hP hD hS => ?_)
        refine lv_goto (tgt := 49) hx hb dX5_pulse_44 (by decide) ?_
        rw [← Option.some.inj h]
        exact kri hx hb hr hlk rfl rfl hP hD hS hK dX5_pulse_49
    · replace h := (if_pos c4).symm.trans h
      refine lv_ldc (v := (-2000000002)) hx hb hown (hts _ kw639) dX5_pulse_21 ?_
      rw [← Option.some.inj h]
      exact kri hx hb hr hlk rfl rfl hP hD hS hK dX5_pulse_23
  · replace h := (if_pos c2).symm.trans h
    refine lv_ldc (v := (-2000000001)) hx hb hown (hts _ kw638) dX5_pulse_9 ?_
    rw [← Option.some.inj h]
    exact kri hx hb hr hlk rfl rfl hP hD hS hK dX5_pulse_11

/-! X5_price -/
def f_X5_price (row : Nat → Int32) (tab : Nat → Int64) (goa : Nat → Int64) (bes : Nat → Int64) (tic : Nat → Int64) (bwh : Int64) (bpr : Int64) (bse : Int32) (p0 : Int32) (p1 : Int32) (p2 : Int32) : Option (Int32 × (Nat → Int64) × (Nat → Int64) × (Nat → Int64) × (Nat → Int64) × Int64 × Int64 × Int32) :=
  (f_X5_isTarget p0 p1 p2).bind (fun q1 => if q1 = 0 then (some ((-2000000002), tab, goa, bes, tic, bwh, bpr, bse)) else ((f_X5_aims goa p0 p1 p2).bind (fun q3 => (f_X5_finds row q3 tab bes tic bwh bpr bse).bind (fun q4 => if q4.1 = 0 then (some ((-2000000000), q4.2.1, q3, q4.2.2.1, q4.2.2.2.1, q4.2.2.2.2.1, q4.2.2.2.2.2.1, q4.2.2.2.2.2.2)) else (gd (nzl q4.2.2.2.2.1) (some (((1000 * q4.2.2.2.2.2.1) / q4.2.2.2.2.1).toInt32, q4.2.1, q3, q4.2.2.1, q4.2.2.2.1, q4.2.2.2.2.1, q4.2.2.2.2.2.1, q4.2.2.2.2.2.2)))))))

set_option maxHeartbeats 4000000 in
set_option maxRecDepth 100000 in
theorem c_X5_price (l : Launch) (G : va_G) (cI cJ cZ cO cA : ClassId) (e : Nat × Nat) (aM : Nat → Nat) (sz : Nat) (row : Nat → Int32) (tot : Nat → Int64) (tab : Nat → Int64) (goa : Nat → Int64) (bes : Nat → Int64) (tic : Nat → Int64) (txt : Nat → Int32) (par : Nat → Int32) (sav : Int32) (bwh : Int64) (bpr : Int64) (bse : Int32) (len : Int32) (mat : Int32) (ask : Int32) (hh : Int64) (p0 : Int32) (p1 : Int32) (p2 : Int32) {res : Int32 × (Nat → Int64) × (Nat → Int64) × (Nat → Int64) × (Nat → Int64) × Int64 × Int64 × Int32} (hf : f_X5_price row tab goa bes tic bwh bpr bse p0 p1 p2 = some res) : MetI l yX5_price cX5_price 4 .int ({ frames := 7, cells := 0, slots := 0, locals := 166 } : Room) [.ref (aM 0), .int p0, .int p1, .int p2] G (ty5 cI cJ cZ cO cA) e (wM cI cJ aM row tot tab goa bes tic txt par sav bwh bpr bse len mat ask hh ++ ([] : va_W)) (wM cI cJ aM row tot res.2.1 res.2.2.1 res.2.2.2.1 res.2.2.2.2.1 txt par sav res.2.2.2.2.2.1 res.2.2.2.2.2.2.1 res.2.2.2.2.2.2.2 len mat ask hh ++ ([] : va_W)) sz res.1 := by
  refine g_body (QQ := fun A => (qI G (ty5 cI cJ cZ cO cA) A (wM cI cJ aM row tot res.2.1 res.2.2.1 res.2.2.2.1 res.2.2.2.2.1 txt par sav res.2.2.2.2.2.1 res.2.2.2.2.2.2.1 res.2.2.2.2.2.2.2 len mat ask hh ++ ([] : va_W)) res.1)) (own := RX5) (by decide) rfl (Nat.le_of_ble_eq_true rfl) ?_
  intro p ev s m below meth c A ls hx hb hr hml hown hts hlk hA hP hD hS hK hE hl
  have hl : lv_has ls 4 [(0, .ref (aM 0)), (1, .int p0), (2, .int p1), (3, .int p2)] := hl
  show W p l ev ({ frames := 7, cells := 0, slots := 0, locals := 166 } : Room) s m ([.ref (aM 0), .int p0, .int p1, .int p2] : List Value).toArray below meth c s.heap [] 0 0 (MQ below (qI G (ty5 cI cJ cZ cO cA) A (wM cI cJ aM row tot res.2.1 res.2.2.1 res.2.2.2.1 res.2.2.2.2.1 txt par sav res.2.2.2.2.2.1 res.2.2.2.2.2.2.1 res.2.2.2.2.2.2.2 len mat ask hh ++ ([] : va_W)) res.1) ([.ref (aM 0), .int p0, .int p1, .int p2] : List Value).toArray s 0 0 A) (F0 m 0 ls [])
  have h := hf
  unfold f_X5_price at h
  refine lv_iload_n hx hb dX5_price_0 rfl (lv_at hl 1 rfl) ?_
  refine lv_iload_n hx hb dX5_price_1 rfl (lv_at hl 2 rfl) ?_
  refine lv_iload_n hx hb dX5_price_2 rfl (lv_at hl 3 rfl) ?_
  obtain ⟨q1, hq1, h⟩ := bd_s h
  refine kSi (n := 3) (As := [.int p0, .int p1, .int p2]) (rest := []) hx hb hml hown hts (c_X5_isTarget l G cI cJ cZ cO cA e _ p0 p1 p2 hq1) (tb_S kw744 kw745 kw7 kw746) rfl rfl (by decide +kernel) ⟨Nat.le_of_ble_eq_true rfl, Nat.le_of_ble_eq_true rfl⟩ hK hP hD hS hA hE rfl rfl hl.1 (Nat.le_of_ble_eq_true rfl) ⟨Nat.zero_le _, Nat.zero_le _⟩ dX5_price_3 (fun H locs hP hD hS => ?_)
  refine lv_if_ne (tgt := 12) hx hb dX5_price_6 (by decide) (fun c2 => ?_) (fun c2 => ?_)
  · replace h := (if_neg c2).symm.trans h
    refine lv_aload_n hx hb dX5_price_12 rfl (lv_at hl 0 rfl) ?_
    refine lv_iload_n hx hb dX5_price_13 rfl (lv_at hl 1 rfl) ?_
    refine lv_iload_n hx hb dX5_price_14 rfl (lv_at hl 2 rfl) ?_
    refine lv_iload_n hx hb dX5_price_15 rfl (lv_at hl 3 rfl) ?_
    obtain ⟨q3, hq3, h⟩ := bd_s h
    refine kVv (n := 3) (C := RX5) (ws' := wM cI cJ aM row tot tab q3 bes tic txt par sav bwh bpr bse len mat ask hh ++ ([] : va_W)) (As := [.int p0, .int p1, .int p2]) (rest := []) hx hb hml hown hts (c_X5_aims l G cI cJ cZ cO cA e aM _ row tot tab goa bes tic txt par sav bwh bpr bse len mat ask hh p0 p1 p2 hq3) (tb_V kw749 kw751 kv27 kw7 kw752) rfl rfl (by decide +kernel) ⟨Nat.le_of_ble_eq_true rfl, Nat.le_of_ble_eq_true rfl⟩ hK hP hD hS hA hE 0 rfl rfl [0, 1, 2, 3, 4, 5, 6, 7, 8] [] rfl rfl rfl 9 ⟨rfl, rfl⟩ (by decide +kernel) (by decide +kernel) rfl rfl hl.1 (Nat.le_of_ble_eq_true rfl) ⟨Nat.zero_le _, Nat.zero_le _⟩ dX5_price_16 (fun H locs hP hD hS => ?_)
    refine lv_aload_n hx hb dX5_price_19 rfl (lv_at hl 0 rfl) ?_
    obtain ⟨q4, hq4, h⟩ := bd_s h
    refine kVi (n := 0) (C := RX5) (ws' := wM cI cJ aM row tot q4.2.1 q3 q4.2.2.1 q4.2.2.2.1 txt par sav q4.2.2.2.2.1 q4.2.2.2.2.2.1 q4.2.2.2.2.2.2 len mat ask hh ++ ([] : va_W)) (As := []) (rest := []) hx hb hml hown hts (c_X5_finds l G cI cJ cZ cO cA e aM _ row tot tab q3 bes tic txt par sav bwh bpr bse len mat ask hh hq4) (tb_V kw753 kw755 kv28 kw7 kw756) rfl rfl (by decide +kernel) ⟨Nat.le_of_ble_eq_true rfl, Nat.le_of_ble_eq_true rfl⟩ hK hP hD hS hA hE 0 rfl rfl [0, 1, 2, 3, 4, 5, 6, 7, 8] [] rfl rfl rfl 9 ⟨rfl, rfl⟩ (by decide +kernel) (by decide +kernel) rfl rfl hl.1 (Nat.le_of_ble_eq_true rfl) ⟨Nat.zero_le _, Nat.zero_le _⟩ dX5_price_20 (fun H locs hP hD hS => ?_)
    refine lv_if_eq (tgt := 43) hx hb dX5_price_23 (by decide) (fun c5 => ?_) (fun c5 => ?_)
    · replace h := (if_pos c5).symm.trans h
      refine lv_ldc (v := (-2000000000)) hx hb hown (hts _ kw769) dX5_price_43 ?_
      rw [← Option.some.inj h]
      exact kri hx hb hr hlk rfl rfl hP hD hS hK dX5_price_45
    · replace h := (if_neg c5).symm.trans h
      refine lv_ldc2 (v := 1000) hx hb hown (hts _ kw783) dX5_price_26 ?_
      refine lv_aload_n hx hb dX5_price_29 rfl (lv_at hl 0 rfl) ?_
      refine va_get (D := G) (ci := 5) (v := .long q4.2.2.2.2.2.1) (C := RX5) (T := TX5) (N := 16) hx hb hts uX5 hown hK hP 0 rfl rfl 7 (by decide) (hts _ kw586) (fun _ h9 => h9) rfl dX5_price_30 ?_
      refine lv_lmul hx hb dX5_price_33 ?_
      refine lv_aload_n hx hb dX5_price_34 rfl (lv_at hl 0 rfl) ?_
      refine va_get (D := G) (ci := 5) (v := .long q4.2.2.2.2.1) (C := RX5) (T := TX5) (N := 16) hx hb hts uX5 hown hK hP 0 rfl rfl 6 (by decide) (hts _ kw585) (fun _ h9 => h9) rfl dX5_price_35 ?_
      obtain ⟨g6, h⟩ := gd_s h
      refine lv_ldiv hx hb dX5_price_38 (nzl_s g6) ?_
      refine lv_l2i (v := ((1000 * q4.2.2.2.2.2.1) / q4.2.2.2.2.1).toInt32) hx hb dX5_price_39 rfl ?_
      refine lv_goto (tgt := 45) hx hb dX5_price_40 (by decide) ?_
      rw [← Option.some.inj h]
      exact kri hx hb hr hlk rfl rfl hP hD hS hK dX5_price_45
  · replace h := (if_pos c2).symm.trans h
    refine lv_ldc (v := (-2000000002)) hx hb hown (hts _ kw639) dX5_price_9 ?_
    rw [← Option.some.inj h]
    exact kri hx hb hr hlk rfl rfl hP hD hS hK dX5_price_11

/-! X5_isRequest -/
def f_X5_isRequest (p0 : Int32) (p1 : Int32) (p2 : Int32) : Option (Int32) :=
  (f_X5_in p0 (-2000) 2000).bind (fun q1 => if q1 = 0 then (some 0) else ((f_X5_in p1 (-2000) 2000).bind (fun q3 => if q3 = 0 then (some 0) else ((f_X5_in p2 (-2000) 2000).bind (fun q5 => if q5 = 0 then (some 0) else (some 1))))))

set_option maxHeartbeats 4000000 in
set_option maxRecDepth 100000 in
theorem c_X5_isRequest (l : Launch) (G : va_G) (cI cJ cZ cO cA : ClassId) (e : Nat × Nat) (sz : Nat) (p0 : Int32) (p1 : Int32) (p2 : Int32) {res : Int32} (hf : f_X5_isRequest p0 p1 p2 = some res) : MetI l yX5_isRequest cX5_isRequest 3 .boolean ({ frames := 1, cells := 0, slots := 0, locals := 22 } : Room) [.int p0, .int p1, .int p2] G (ty5 cI cJ cZ cO cA) e (([] : va_W)) (([] : va_W)) sz res := by
  refine g_body (QQ := fun A => (qI G (ty5 cI cJ cZ cO cA) A (([] : va_W)) res)) (own := RX5) (by decide) rfl (Nat.le_of_ble_eq_true rfl) ?_
  intro p ev s m below meth c A ls hx hb hr hml hown hts hlk hA hP hD hS hK hE hl
  have hl : lv_has ls 3 [(0, .int p0), (1, .int p1), (2, .int p2)] := hl
  show W p l ev ({ frames := 1, cells := 0, slots := 0, locals := 22 } : Room) s m ([.int p0, .int p1, .int p2] : List Value).toArray below meth c s.heap [] 0 0 (MQ below (qI G (ty5 cI cJ cZ cO cA) A (([] : va_W)) res) ([.int p0, .int p1, .int p2] : List Value).toArray s 0 0 A) (F0 m 0 ls [])
  have h := hf
  unfold f_X5_isRequest at h
  refine lv_iload_n hx hb dX5_isRequest_0 rfl (lv_at hl 0 rfl) ?_
  refine lv_sipush (v := (-2000)) hx hb dX5_isRequest_1 (by decide) ?_
  refine lv_sipush (v := 2000) hx hb dX5_isRequest_4 (by decide) ?_
  obtain ⟨q1, hq1, h⟩ := bd_s h
  refine kSi (n := 3) (As := [.int p0, .int (-2000), .int 2000]) (rest := []) hx hb hml hown hts (c_X5_in l G cI cJ cZ cO cA e _ p0 (-2000) 2000 hq1) (tb_S kw635 kw636 kw7 kw637) rfl rfl (by decide +kernel) ⟨Nat.le_of_ble_eq_true rfl, Nat.le_of_ble_eq_true rfl⟩ hK hP hD hS hA hE rfl rfl hl.1 (Nat.le_of_ble_eq_true rfl) ⟨Nat.zero_le _, Nat.zero_le _⟩ dX5_isRequest_7 (fun H locs hP hD hS => ?_)
  refine lv_if_eq (tgt := 43) hx hb dX5_isRequest_10 (by decide) (fun c2 => ?_) (fun c2 => ?_)
  · replace h := (if_pos c2).symm.trans h
    refine lv_iconst (v := 0) hx hb dX5_isRequest_43 (by decide) ?_
    rw [← Option.some.inj h]
    exact kri hx hb hr hlk rfl rfl hP hD hS hK dX5_isRequest_44
  · replace h := (if_neg c2).symm.trans h
    refine lv_iload_n hx hb dX5_isRequest_13 rfl (lv_at hl 1 rfl) ?_
    refine lv_sipush (v := (-2000)) hx hb dX5_isRequest_14 (by decide) ?_
    refine lv_sipush (v := 2000) hx hb dX5_isRequest_17 (by decide) ?_
    obtain ⟨q3, hq3, h⟩ := bd_s h
    refine kSi (n := 3) (As := [.int p1, .int (-2000), .int 2000]) (rest := []) hx hb hml hown hts (c_X5_in l G cI cJ cZ cO cA e _ p1 (-2000) 2000 hq3) (tb_S kw635 kw636 kw7 kw637) rfl rfl (by decide +kernel) ⟨Nat.le_of_ble_eq_true rfl, Nat.le_of_ble_eq_true rfl⟩ hK hP hD hS hA hE rfl rfl hl.1 (Nat.le_of_ble_eq_true rfl) ⟨Nat.zero_le _, Nat.zero_le _⟩ dX5_isRequest_20 (fun H locs hP hD hS => ?_)
    refine lv_if_eq (tgt := 43) hx hb dX5_isRequest_23 (by decide) (fun c4 => ?_) (fun c4 => ?_)
    · replace h := (if_pos c4).symm.trans h
      refine lv_iconst (v := 0) hx hb dX5_isRequest_43 (by decide) ?_
      rw [← Option.some.inj h]
      exact kri hx hb hr hlk rfl rfl hP hD hS hK dX5_isRequest_44
    · replace h := (if_neg c4).symm.trans h
      refine lv_iload_n hx hb dX5_isRequest_26 rfl (lv_at hl 2 rfl) ?_
      refine lv_sipush (v := (-2000)) hx hb dX5_isRequest_27 (by decide) ?_
      refine lv_sipush (v := 2000) hx hb dX5_isRequest_30 (by decide) ?_
      obtain ⟨q5, hq5, h⟩ := bd_s h
      refine kSi (n := 3) (As := [.int p2, .int (-2000), .int 2000]) (rest := []) hx hb hml hown hts (c_X5_in l G cI cJ cZ cO cA e _ p2 (-2000) 2000 hq5) (tb_S kw635 kw636 kw7 kw637) rfl rfl (by decide +kernel) ⟨Nat.le_of_ble_eq_true rfl, Nat.le_of_ble_eq_true rfl⟩ hK hP hD hS hA hE rfl rfl hl.1 (Nat.le_of_ble_eq_true rfl) ⟨Nat.zero_le _, Nat.zero_le _⟩ dX5_isRequest_33 (fun H locs hP hD hS => ?_)
      refine lv_if_eq (tgt := 43) hx hb dX5_isRequest_36 (by decide) (fun c6 => ?_) (fun c6 => ?_)
      · replace h := (if_pos c6).symm.trans h
        refine lv_iconst (v := 0) hx hb dX5_isRequest_43 (by decide) ?_
        rw [← Option.some.inj h]
        exact kri hx hb hr hlk rfl rfl hP hD hS hK dX5_isRequest_44
      · replace h := (if_neg c6).symm.trans h
        refine lv_iconst (v := 1) hx hb dX5_isRequest_39 (by decide) ?_
        refine lv_goto (tgt := 44) hx hb dX5_isRequest_40 (by decide) ?_
        rw [← Option.some.inj h]
        exact kri hx hb hr hlk rfl rfl hP hD hS hK dX5_isRequest_44

/-! X5_puts -/
def f_X5_puts_b13 (v1 : Int32) (z2 : (Nat → Int32) × Int32) : Option (((Nat → Int32) × Int32) ⊕ ((Nat → Int32))) :=
  if z2.2 ≤ ((3 * v1) + 2) then (some (Sum.inr z2.1)) else (gd (ib ((69 + z2.2) - 3) 708) (gd (ib (69 + z2.2) 708) (some (Sum.inl ((upd z2.1 (69 + z2.2).toNatClampNeg (z2.1 ((69 + z2.2) - 3).toNatClampNeg)), (z2.2 + (-1)))))))
def f_X5_puts (row : Nat → Int32) (p0 : Int32) (p1 : Int32) (p2 : Int32) (p3 : Int32) : Option ((Nat → Int32)) :=
  gd (ib 68 708) ((lp (f_X5_puts_b13 p0) 1000 (row, ((3 * (row (68 : Int32).toNatClampNeg)) + 2))).bind (fun q2 => gd (ib (69 + (3 * p0)) 708) (gd (ib ((69 + (3 * p0)) + 1) 708) (gd (ib ((69 + (3 * p0)) + 2) 708) (gd (ib 68 708) (gd (ib 68 708) (some (upd (upd (upd (upd q2 (69 + (3 * p0)).toNatClampNeg p1) ((69 + (3 * p0)) + 1).toNatClampNeg p2) ((69 + (3 * p0)) + 2).toNatClampNeg p3) (68 : Int32).toNatClampNeg (((upd (upd (upd q2 (69 + (3 * p0)).toNatClampNeg p1) ((69 + (3 * p0)) + 1).toNatClampNeg p2) ((69 + (3 * p0)) + 2).toNatClampNeg p3) (68 : Int32).toNatClampNeg) + 1)))))))))

set_option maxHeartbeats 4000000 in
set_option maxRecDepth 100000 in
theorem c_X5_puts (l : Launch) (G : va_G) (cI cJ cZ cO cA : ClassId) (e : Nat × Nat) (aM : Nat → Nat) (sz : Nat) (row : Nat → Int32) (tot : Nat → Int64) (tab : Nat → Int64) (goa : Nat → Int64) (bes : Nat → Int64) (tic : Nat → Int64) (txt : Nat → Int32) (par : Nat → Int32) (sav : Int32) (bwh : Int64) (bpr : Int64) (bse : Int32) (len : Int32) (mat : Int32) (ask : Int32) (hh : Int64) (p0 : Int32) (p1 : Int32) (p2 : Int32) (p3 : Int32) {res : (Nat → Int32)} (hf : f_X5_puts row p0 p1 p2 p3 = some res) : MetV l yX5_puts cX5_puts 6 ({ frames := 0, cells := 0, slots := 0, locals := 0 } : Room) [.ref (aM 0), .int p0, .int p1, .int p2, .int p3] G (ty5 cI cJ cZ cO cA) e (wM cI cJ aM row tot tab goa bes tic txt par sav bwh bpr bse len mat ask hh ++ ([] : va_W)) (wM cI cJ aM res tot tab goa bes tic txt par sav bwh bpr bse len mat ask hh ++ ([] : va_W)) sz := by
  refine g_body (QQ := fun A => (qV G (ty5 cI cJ cZ cO cA) A (wM cI cJ aM res tot tab goa bes tic txt par sav bwh bpr bse len mat ask hh ++ ([] : va_W)))) (own := RX5) (by decide) rfl (Nat.le_of_ble_eq_true rfl) ?_
  intro p ev s m below meth c A ls hx hb hr hml hown hts hlk hA hP hD hS hK hE hl
  have hl : lv_has ls 6 [(0, .ref (aM 0)), (1, .int p0), (2, .int p1), (3, .int p2), (4, .int p3)] := hl
  show W p l ev ({ frames := 0, cells := 0, slots := 0, locals := 0 } : Room) s m ([.ref (aM 0), .int p0, .int p1, .int p2, .int p3] : List Value).toArray below meth c s.heap [] 0 0 (MQ below (qV G (ty5 cI cJ cZ cO cA) A (wM cI cJ aM res tot tab goa bes tic txt par sav bwh bpr bse len mat ask hh ++ ([] : va_W))) ([.ref (aM 0), .int p0, .int p1, .int p2, .int p3] : List Value).toArray s 0 0 A) (F0 m 0 ls [])
  have h := hf
  unfold f_X5_puts at h
  refine lv_iconst (v := 3) hx hb dX5_puts_0 (by decide) ?_
  refine lv_aload_n hx hb dX5_puts_1 rfl (lv_at hl 0 rfl) ?_
  refine va_get (D := G) (ci := 5) (v := .ref (aM 1)) (C := RX5) (T := TX5) (N := 16) hx hb hts uX5 hown hK hP 0 rfl rfl 0 (by decide) (hts _ kw579) (fun _ h9 => h9) rfl dX5_puts_2 ?_
  refine lv_bipush (v := 68) hx hb dX5_puts_5 (by decide) ?_
  obtain ⟨g1, h⟩ := gd_s h
  refine va_iald hx hb hK hP 1 0 rfl rfl (ib_in g1) dX5_puts_7 ?_
  refine lv_imul hx hb dX5_puts_8 ?_
  refine lv_iconst (v := 2) hx hb dX5_puts_9 (by decide) ?_
  refine lv_iadd hx hb dX5_puts_10 ?_
  refine lv_istore (lv' := [(5, .int ((3 * (row (68 : Int32).toNatClampNeg)) + 2)), (0, .ref (aM 0)), (1, .int p0), (2, .int p1), (3, .int p2), (4, .int p3)]) hx hb dX5_puts_11 hl (by decide) rfl (fun ls hl => ?_)
  obtain ⟨q2, hq2, h⟩ := bd_s h
  have hX2_0 : ∀ (x2 : (Nat → Int32)) (H : Heap) (locs : List Loc) (ls : Array Slot), x2 = q2 → va_P G vwCl (wM cI cJ aM x2 tot tab goa bes tic txt par sav bwh bpr bse len mat ask hh ++ ([] : va_W)) H → va_D A (wM cI cJ aM x2 tot tab goa bes tic txt par sav bwh bpr bse len mat ask hh ++ ([] : va_W)) → va_S A s.heap H locs → lv_has ls 6 [(0, .ref (aM 0)), (1, .int p0), (2, .int p1), (3, .int p2), (4, .int p3)] → W p l ev ({ frames := 0, cells := 0, slots := 0, locals := 0 } : Room) s m ([.ref (aM 0), .int p0, .int p1, .int p2, .int p3] : List Value).toArray below meth c H locs 0 0 (MQ below (qV G (ty5 cI cJ cZ cO cA) A (wM cI cJ aM res tot tab goa bes tic txt par sav bwh bpr bse len mat ask hh ++ ([] : va_W))) ([.ref (aM 0), .int p0, .int p1, .int p2, .int p3] : List Value).toArray s 0 0 A) (F0 m 51 ls []) := by
    intro x2 H locs ls e2 hP hD hS hl
    replace e2 := e2.symm
    subst e2
    refine lv_aload_n hx hb dX5_puts_51 rfl (lv_at hl 0 rfl) ?_
    refine va_get (D := G) (ci := 5) (v := .ref (aM 1)) (C := RX5) (T := TX5) (N := 16) hx hb hts uX5 hown hK hP 0 rfl rfl 0 (by decide) (hts _ kw579) (fun _ h9 => h9) rfl dX5_puts_52 ?_
    refine lv_bipush (v := 69) hx hb dX5_puts_55 (by decide) ?_
    refine lv_iconst (v := 3) hx hb dX5_puts_57 (by decide) ?_
    refine lv_iload_n hx hb dX5_puts_58 rfl (lv_at hl 1 rfl) ?_
    refine lv_imul hx hb dX5_puts_59 ?_
    refine lv_iadd hx hb dX5_puts_60 ?_
    refine lv_iload_n hx hb dX5_puts_61 rfl (lv_at hl 2 rfl) ?_
    obtain ⟨g6, h⟩ := gd_s h
    refine va_iast hx hb hK hP hD hS 1 0 rfl rfl (ib_in g6) dX5_puts_62 (fun H locs hP hD hS => ?_)
    have hP : va_P G vwCl (wM cI cJ aM (upd q2 (69 + (3 * p0)).toNatClampNeg p1) tot tab goa bes tic txt par sav bwh bpr bse len mat ask hh ++ ([] : va_W)) H := hP
    have hD : va_D A (wM cI cJ aM (upd q2 (69 + (3 * p0)).toNatClampNeg p1) tot tab goa bes tic txt par sav bwh bpr bse len mat ask hh ++ ([] : va_W)) := hD
    refine lv_aload_n hx hb dX5_puts_63 rfl (lv_at hl 0 rfl) ?_
    refine va_get (D := G) (ci := 5) (v := .ref (aM 1)) (C := RX5) (T := TX5) (N := 16) hx hb hts uX5 hown hK hP 0 rfl rfl 0 (by decide) (hts _ kw579) (fun _ h9 => h9) rfl dX5_puts_64 ?_
    refine lv_bipush (v := 69) hx hb dX5_puts_67 (by decide) ?_
    refine lv_iconst (v := 3) hx hb dX5_puts_69 (by decide) ?_
    refine lv_iload_n hx hb dX5_puts_70 rfl (lv_at hl 1 rfl) ?_
    refine lv_imul hx hb dX5_puts_71 ?_
    refine lv_iadd hx hb dX5_puts_72 ?_
    refine lv_iconst (v := 1) hx hb dX5_puts_73 (by decide) ?_
    refine lv_iadd hx hb dX5_puts_74 ?_
    refine lv_iload_n hx hb dX5_puts_75 rfl (lv_at hl 3 rfl) ?_
    obtain ⟨g7, h⟩ := gd_s h
    refine va_iast hx hb hK hP hD hS 1 0 rfl rfl (ib_in g7) dX5_puts_76 (fun H locs hP hD hS => ?_)
    have hP : va_P G vwCl (wM cI cJ aM (upd (upd q2 (69 + (3 * p0)).toNatClampNeg p1) ((69 + (3 * p0)) + 1).toNatClampNeg p2) tot tab goa bes tic txt par sav bwh bpr bse len mat ask hh ++ ([] : va_W)) H := hP
    have hD : va_D A (wM cI cJ aM (upd (upd q2 (69 + (3 * p0)).toNatClampNeg p1) ((69 + (3 * p0)) + 1).toNatClampNeg p2) tot tab goa bes tic txt par sav bwh bpr bse len mat ask hh ++ ([] : va_W)) := hD
    refine lv_aload_n hx hb dX5_puts_77 rfl (lv_at hl 0 rfl) ?_
    refine va_get (D := G) (ci := 5) (v := .ref (aM 1)) (C := RX5) (T := TX5) (N := 16) hx hb hts uX5 hown hK hP 0 rfl rfl 0 (by decide) (hts _ kw579) (fun _ h9 => h9) rfl dX5_puts_78 ?_
    refine lv_bipush (v := 69) hx hb dX5_puts_81 (by decide) ?_
    refine lv_iconst (v := 3) hx hb dX5_puts_83 (by decide) ?_
    refine lv_iload_n hx hb dX5_puts_84 rfl (lv_at hl 1 rfl) ?_
    refine lv_imul hx hb dX5_puts_85 ?_
    refine lv_iadd hx hb dX5_puts_86 ?_
    refine lv_iconst (v := 2) hx hb dX5_puts_87 (by decide) ?_
    refine lv_iadd hx hb dX5_puts_88 ?_
    refine lv_iload hx hb dX5_puts_89 (lv_at hl 4 rfl) ?_
    obtain ⟨g8, h⟩ := gd_s h
    refine va_iast hx hb hK hP hD hS 1 0 rfl rfl (ib_in g8) dX5_puts_91 (fun H locs hP hD hS => ?_)
    have hP : va_P G vwCl (wM cI cJ aM (upd (upd (upd q2 (69 + (3 * p0)).toNatClampNeg p1) ((69 + (3 * p0)) + 1).toNatClampNeg p2) ((69 + (3 * p0)) + 2).toNatClampNeg p3) tot tab goa bes tic txt par sav bwh bpr bse len mat ask hh ++ ([] : va_W)) H := hP
    have hD : va_D A (wM cI cJ aM (upd (upd (upd q2 (69 + (3 * p0)).toNatClampNeg p1) ((69 + (3 * p0)) + 1).toNatClampNeg p2) ((69 + (3 * p0)) + 2).toNatClampNeg p3) tot tab goa bes tic txt par sav bwh bpr bse len mat ask hh ++ ([] : va_W)) := hD
    refine lv_aload_n hx hb dX5_puts_92 rfl (lv_at hl 0 rfl) ?_
    refine va_get (D := G) (ci := 5) (v := .ref (aM 1)) (C := RX5) (T := TX5) (N := 16) hx hb hts uX5 hown hK hP 0 rfl rfl 0 (by decide) (hts _ kw579) (fun _ h9 => h9) rfl dX5_puts_93 ?_
    refine lv_bipush (v := 68) hx hb dX5_puts_96 (by decide) ?_
    refine lv_dup2_11 hx hb dX5_puts_98 rfl rfl ?_
    obtain ⟨g9, h⟩ := gd_s h
    refine va_iald hx hb hK hP 1 0 rfl rfl (ib_in g9) dX5_puts_99 ?_
    refine lv_iconst (v := 1) hx hb dX5_puts_100 (by decide) ?_
    refine lv_iadd hx hb dX5_puts_101 ?_
    obtain ⟨g10, h⟩ := gd_s h
    refine va_iast hx hb hK hP hD hS 1 0 rfl rfl (ib_in g10) dX5_puts_102 (fun H locs hP hD hS => ?_)
    have hP : va_P G vwCl (wM cI cJ aM (upd (upd (upd (upd q2 (69 + (3 * p0)).toNatClampNeg p1) ((69 + (3 * p0)) + 1).toNatClampNeg p2) ((69 + (3 * p0)) + 2).toNatClampNeg p3) (68 : Int32).toNatClampNeg (((upd (upd (upd q2 (69 + (3 * p0)).toNatClampNeg p1) ((69 + (3 * p0)) + 1).toNatClampNeg p2) ((69 + (3 * p0)) + 2).toNatClampNeg p3) (68 : Int32).toNatClampNeg) + 1)) tot tab goa bes tic txt par sav bwh bpr bse len mat ask hh ++ ([] : va_W)) H := hP
    have hD : va_D A (wM cI cJ aM (upd (upd (upd (upd q2 (69 + (3 * p0)).toNatClampNeg p1) ((69 + (3 * p0)) + 1).toNatClampNeg p2) ((69 + (3 * p0)) + 2).toNatClampNeg p3) (68 : Int32).toNatClampNeg (((upd (upd (upd q2 (69 + (3 * p0)).toNatClampNeg p1) ((69 + (3 * p0)) + 1).toNatClampNeg p2) ((69 + (3 * p0)) + 2).toNatClampNeg p3) (68 : Int32).toNatClampNeg) + 1)) tot tab goa bes tic txt par sav bwh bpr bse len mat ask hh ++ ([] : va_W)) := hD
    rw [← Option.some.inj h]
    exact krv hx hb hr hlk hP hD hS hK dX5_puts_103
  have hL2 : ∀ (n : Nat) (z2 : (Nat → Int32) × Int32) (H : Heap) (locs : List Loc) (ls : Array Slot), lp (f_X5_puts_b13 p0) n z2 = some q2 → va_P G vwCl (wM cI cJ aM z2.1 tot tab goa bes tic txt par sav bwh bpr bse len mat ask hh ++ ([] : va_W)) H → va_D A (wM cI cJ aM z2.1 tot tab goa bes tic txt par sav bwh bpr bse len mat ask hh ++ ([] : va_W)) → va_S A s.heap H locs → lv_has ls 6 [(0, .ref (aM 0)), (1, .int p0), (2, .int p1), (3, .int p2), (4, .int p3), (5, .int z2.2)] → W p l ev ({ frames := 0, cells := 0, slots := 0, locals := 0 } : Room) s m ([.ref (aM 0), .int p0, .int p1, .int p2, .int p3] : List Value).toArray below meth c H locs 0 0 (MQ below (qV G (ty5 cI cJ cZ cO cA) A (wM cI cJ aM res tot tab goa bes tic txt par sav bwh bpr bse len mat ask hh ++ ([] : va_W))) ([.ref (aM 0), .int p0, .int p1, .int p2, .int p3] : List Value).toArray s 0 0 A) (F0 m 13 ls []) := by
    intro n
    induction n with
    | zero => intro z2 H locs ls h; cases h
    | succ n ih2 =>
      intro z2 H locs ls h hP hD hS hl
      obtain ⟨o2, h, h2⟩ := lp_s h
      unfold f_X5_puts_b13 at h
      refine lv_iload hx hb dX5_puts_13 (lv_at hl 5 rfl) ?_
      refine lv_iconst (v := 3) hx hb dX5_puts_15 (by decide) ?_
      refine lv_iload_n hx hb dX5_puts_16 rfl (lv_at hl 1 rfl) ?_
      refine lv_imul hx hb dX5_puts_17 ?_
      refine lv_iconst (v := 2) hx hb dX5_puts_18 (by decide) ?_
      refine lv_iadd hx hb dX5_puts_19 ?_
      refine lv_icmp_le (tgt := 51) hx hb dX5_puts_20 (by decide) (fun c3 => ?_) (fun c3 => ?_)
      · replace h := (if_pos c3).symm.trans h
        rw [← Option.some.inj h] at h2
        exact hX2_0 z2.1 _ _ _ (lp_x h2) hP hD hS (lv_sub hl [0, 1, 2, 3, 4] rfl)
      · replace h := (if_neg c3).symm.trans h
        refine lv_aload_n hx hb dX5_puts_23 rfl (lv_at hl 0 rfl) ?_
        refine va_get (D := G) (ci := 5) (v := .ref (aM 1)) (C := RX5) (T := TX5) (N := 16) hx hb hts uX5 hown hK hP 0 rfl rfl 0 (by decide) (hts _ kw579) (fun _ h9 => h9) rfl dX5_puts_24 ?_
        refine lv_bipush (v := 69) hx hb dX5_puts_27 (by decide) ?_
        refine lv_iload hx hb dX5_puts_29 (lv_at hl 5 rfl) ?_
        refine lv_iadd hx hb dX5_puts_31 ?_
        refine lv_aload_n hx hb dX5_puts_32 rfl (lv_at hl 0 rfl) ?_
        refine va_get (D := G) (ci := 5) (v := .ref (aM 1)) (C := RX5) (T := TX5) (N := 16) hx hb hts uX5 hown hK hP 0 rfl rfl 0 (by decide) (hts _ kw579) (fun _ h9 => h9) rfl dX5_puts_33 ?_
        refine lv_bipush (v := 69) hx hb dX5_puts_36 (by decide) ?_
        refine lv_iload hx hb dX5_puts_38 (lv_at hl 5 rfl) ?_
        refine lv_iadd hx hb dX5_puts_40 ?_
        refine lv_iconst (v := 3) hx hb dX5_puts_41 (by decide) ?_
        refine lv_isub hx hb dX5_puts_42 ?_
        obtain ⟨g4, h⟩ := gd_s h
        refine va_iald hx hb hK hP 1 0 rfl rfl (ib_in g4) dX5_puts_43 ?_
        obtain ⟨g5, h⟩ := gd_s h
        refine va_iast hx hb hK hP hD hS 1 0 rfl rfl (ib_in g5) dX5_puts_44 (fun H locs hP hD hS => ?_)
        have hP : va_P G vwCl (wM cI cJ aM (upd z2.1 (69 + z2.2).toNatClampNeg (z2.1 ((69 + z2.2) - 3).toNatClampNeg)) tot tab goa bes tic txt par sav bwh bpr bse len mat ask hh ++ ([] : va_W)) H := hP
        have hD : va_D A (wM cI cJ aM (upd z2.1 (69 + z2.2).toNatClampNeg (z2.1 ((69 + z2.2) - 3).toNatClampNeg)) tot tab goa bes tic txt par sav bwh bpr bse len mat ask hh ++ ([] : va_W)) := hD
        refine lv_iinc (v := (z2.2 + (-1))) (lv' := [(5, .int (z2.2 + (-1))), (0, .ref (aM 0)), (1, .int p0), (2, .int p1), (3, .int p2), (4, .int p3)]) hx hb dX5_puts_45 hl (k := 5) rfl rfl (by decide) rfl (fun ls hl => ?_)
        refine lv_goto (tgt := 13) hx hb dX5_puts_48 (by decide) ?_
        rw [← Option.some.inj h] at h2
        exact ih2 ((upd z2.1 (69 + z2.2).toNatClampNeg (z2.1 ((69 + z2.2) - 3).toNatClampNeg)), (z2.2 + (-1))) _ _ _ (lp_b h2) hP hD hS (lv_sub hl [1, 2, 3, 4, 5, 0] rfl)
  exact hL2 _ (row, ((3 * (row (68 : Int32).toNatClampNeg)) + 2)) _ _ _ hq2 hP hD hS (lv_sub hl [1, 2, 3, 4, 5, 0] rfl)

/-! X5_takes -/
def f_X5_takes_b15 (z3 : (Nat → Int32) × Int32) : Option (((Nat → Int32) × Int32) ⊕ ((Nat → Int32))) :=
  gd (ib 68 708) (if (3 * (z3.1 (68 : Int32).toNatClampNeg)) ≤ z3.2 then (some (Sum.inr z3.1)) else (gd (ib ((69 + z3.2) + 3) 708) (gd (ib (69 + z3.2) 708) (some (Sum.inl ((upd z3.1 (69 + z3.2).toNatClampNeg (z3.1 ((69 + z3.2) + 3).toNatClampNeg)), (z3.2 + 1)))))))
def f_X5_takes (row : Nat → Int32) (p0 : Int32) : Option ((Nat → Int32)) :=
  gd (ib 68 708) (gd (ib 68 708) ((lp f_X5_takes_b15 1000 ((upd row (68 : Int32).toNatClampNeg ((row (68 : Int32).toNatClampNeg) - 1)), (3 * p0))).bind (fun q3 => some q3)))

set_option maxHeartbeats 4000000 in
set_option maxRecDepth 100000 in
theorem c_X5_takes (l : Launch) (G : va_G) (cI cJ cZ cO cA : ClassId) (e : Nat × Nat) (aM : Nat → Nat) (sz : Nat) (row : Nat → Int32) (tot : Nat → Int64) (tab : Nat → Int64) (goa : Nat → Int64) (bes : Nat → Int64) (tic : Nat → Int64) (txt : Nat → Int32) (par : Nat → Int32) (sav : Int32) (bwh : Int64) (bpr : Int64) (bse : Int32) (len : Int32) (mat : Int32) (ask : Int32) (hh : Int64) (p0 : Int32) {res : (Nat → Int32)} (hf : f_X5_takes row p0 = some res) : MetV l yX5_takes cX5_takes 3 ({ frames := 0, cells := 0, slots := 0, locals := 0 } : Room) [.ref (aM 0), .int p0] G (ty5 cI cJ cZ cO cA) e (wM cI cJ aM row tot tab goa bes tic txt par sav bwh bpr bse len mat ask hh ++ ([] : va_W)) (wM cI cJ aM res tot tab goa bes tic txt par sav bwh bpr bse len mat ask hh ++ ([] : va_W)) sz := by
  refine g_body (QQ := fun A => (qV G (ty5 cI cJ cZ cO cA) A (wM cI cJ aM res tot tab goa bes tic txt par sav bwh bpr bse len mat ask hh ++ ([] : va_W)))) (own := RX5) (by decide) rfl (Nat.le_of_ble_eq_true rfl) ?_
  intro p ev s m below meth c A ls hx hb hr hml hown hts hlk hA hP hD hS hK hE hl
  have hl : lv_has ls 3 [(0, .ref (aM 0)), (1, .int p0)] := hl
  show W p l ev ({ frames := 0, cells := 0, slots := 0, locals := 0 } : Room) s m ([.ref (aM 0), .int p0] : List Value).toArray below meth c s.heap [] 0 0 (MQ below (qV G (ty5 cI cJ cZ cO cA) A (wM cI cJ aM res tot tab goa bes tic txt par sav bwh bpr bse len mat ask hh ++ ([] : va_W))) ([.ref (aM 0), .int p0] : List Value).toArray s 0 0 A) (F0 m 0 ls [])
  have h := hf
  unfold f_X5_takes at h
  refine lv_aload_n hx hb dX5_takes_0 rfl (lv_at hl 0 rfl) ?_
  refine va_get (D := G) (ci := 5) (v := .ref (aM 1)) (C := RX5) (T := TX5) (N := 16) hx hb hts uX5 hown hK hP 0 rfl rfl 0 (by decide) (hts _ kw579) (fun _ h9 => h9) rfl dX5_takes_1 ?_
  refine lv_bipush (v := 68) hx hb dX5_takes_4 (by decide) ?_
  refine lv_dup2_11 hx hb dX5_takes_6 rfl rfl ?_
  obtain ⟨g1, h⟩ := gd_s h
  refine va_iald hx hb hK hP 1 0 rfl rfl (ib_in g1) dX5_takes_7 ?_
  refine lv_iconst (v := 1) hx hb dX5_takes_8 (by decide) ?_
  refine lv_isub hx hb dX5_takes_9 ?_
  obtain ⟨g2, h⟩ := gd_s h
  refine va_iast hx hb hK hP hD hS 1 0 rfl rfl (ib_in g2) dX5_takes_10 (fun H locs hP hD hS => ?_)
  have hP : va_P G vwCl (wM cI cJ aM (upd row (68 : Int32).toNatClampNeg ((row (68 : Int32).toNatClampNeg) - 1)) tot tab goa bes tic txt par sav bwh bpr bse len mat ask hh ++ ([] : va_W)) H := hP
  have hD : va_D A (wM cI cJ aM (upd row (68 : Int32).toNatClampNeg ((row (68 : Int32).toNatClampNeg) - 1)) tot tab goa bes tic txt par sav bwh bpr bse len mat ask hh ++ ([] : va_W)) := hD
  refine lv_iconst (v := 3) hx hb dX5_takes_11 (by decide) ?_
  refine lv_iload_n hx hb dX5_takes_12 rfl (lv_at hl 1 rfl) ?_
  refine lv_imul hx hb dX5_takes_13 ?_
  refine lv_istore_n (lv' := [(2, .int (3 * p0)), (0, .ref (aM 0)), (1, .int p0)]) hx hb dX5_takes_14 rfl hl (by decide) rfl (fun ls hl => ?_)
  obtain ⟨q3, hq3, h⟩ := bd_s h
  have hX3_0 : ∀ (x3 : (Nat → Int32)) (H : Heap) (locs : List Loc) (ls : Array Slot), x3 = q3 → va_P G vwCl (wM cI cJ aM x3 tot tab goa bes tic txt par sav bwh bpr bse len mat ask hh ++ ([] : va_W)) H → va_D A (wM cI cJ aM x3 tot tab goa bes tic txt par sav bwh bpr bse len mat ask hh ++ ([] : va_W)) → va_S A s.heap H locs → lv_has ls 3 [] → W p l ev ({ frames := 0, cells := 0, slots := 0, locals := 0 } : Room) s m ([.ref (aM 0), .int p0] : List Value).toArray below meth c H locs 0 0 (MQ below (qV G (ty5 cI cJ cZ cO cA) A (wM cI cJ aM res tot tab goa bes tic txt par sav bwh bpr bse len mat ask hh ++ ([] : va_W))) ([.ref (aM 0), .int p0] : List Value).toArray s 0 0 A) (F0 m 54 ls []) := by
    intro x3 H locs ls e3 hP hD hS hl
    replace e3 := e3.symm
    subst e3
    rw [← Option.some.inj h]
    exact krv hx hb hr hlk hP hD hS hK dX5_takes_54
  have hL3 : ∀ (n : Nat) (z3 : (Nat → Int32) × Int32) (H : Heap) (locs : List Loc) (ls : Array Slot), lp f_X5_takes_b15 n z3 = some q3 → va_P G vwCl (wM cI cJ aM z3.1 tot tab goa bes tic txt par sav bwh bpr bse len mat ask hh ++ ([] : va_W)) H → va_D A (wM cI cJ aM z3.1 tot tab goa bes tic txt par sav bwh bpr bse len mat ask hh ++ ([] : va_W)) → va_S A s.heap H locs → lv_has ls 3 [(0, .ref (aM 0)), (2, .int z3.2)] → W p l ev ({ frames := 0, cells := 0, slots := 0, locals := 0 } : Room) s m ([.ref (aM 0), .int p0] : List Value).toArray below meth c H locs 0 0 (MQ below (qV G (ty5 cI cJ cZ cO cA) A (wM cI cJ aM res tot tab goa bes tic txt par sav bwh bpr bse len mat ask hh ++ ([] : va_W))) ([.ref (aM 0), .int p0] : List Value).toArray s 0 0 A) (F0 m 15 ls []) := by
    intro n
    induction n with
    | zero => intro z3 H locs ls h; cases h
    | succ n ih3 =>
      intro z3 H locs ls h hP hD hS hl
      obtain ⟨o3, h, h3⟩ := lp_s h
      unfold f_X5_takes_b15 at h
      refine lv_iload_n hx hb dX5_takes_15 rfl (lv_at hl 1 rfl) ?_
      refine lv_iconst (v := 3) hx hb dX5_takes_16 (by decide) ?_
      refine lv_aload_n hx hb dX5_takes_17 rfl (lv_at hl 0 rfl) ?_
      refine va_get (D := G) (ci := 5) (v := .ref (aM 1)) (C := RX5) (T := TX5) (N := 16) hx hb hts uX5 hown hK hP 0 rfl rfl 0 (by decide) (hts _ kw579) (fun _ h9 => h9) rfl dX5_takes_18 ?_
      refine lv_bipush (v := 68) hx hb dX5_takes_21 (by decide) ?_
      obtain ⟨g4, h⟩ := gd_s h
      refine va_iald hx hb hK hP 1 0 rfl rfl (ib_in g4) dX5_takes_23 ?_
      refine lv_imul hx hb dX5_takes_24 ?_
      refine lv_icmp_ge (tgt := 54) hx hb dX5_takes_25 (by decide) (fun c5 => ?_) (fun c5 => ?_)
      · replace h := (if_pos c5).symm.trans h
        rw [← Option.some.inj h] at h3
        exact hX3_0 z3.1 _ _ _ (lp_x h3) hP hD hS (lv_sub hl [] rfl)
      · replace h := (if_neg c5).symm.trans h
        refine lv_aload_n hx hb dX5_takes_28 rfl (lv_at hl 0 rfl) ?_
        refine va_get (D := G) (ci := 5) (v := .ref (aM 1)) (C := RX5) (T := TX5) (N := 16) hx hb hts uX5 hown hK hP 0 rfl rfl 0 (by decide) (hts _ kw579) (fun _ h9 => h9) rfl dX5_takes_29 ?_
        refine lv_bipush (v := 69) hx hb dX5_takes_32 (by decide) ?_
        refine lv_iload_n hx hb dX5_takes_34 rfl (lv_at hl 1 rfl) ?_
        refine lv_iadd hx hb dX5_takes_35 ?_
        refine lv_aload_n hx hb dX5_takes_36 rfl (lv_at hl 0 rfl) ?_
        refine va_get (D := G) (ci := 5) (v := .ref (aM 1)) (C := RX5) (T := TX5) (N := 16) hx hb hts uX5 hown hK hP 0 rfl rfl 0 (by decide) (hts _ kw579) (fun _ h9 => h9) rfl dX5_takes_37 ?_
        refine lv_bipush (v := 69) hx hb dX5_takes_40 (by decide) ?_
        refine lv_iload_n hx hb dX5_takes_42 rfl (lv_at hl 1 rfl) ?_
        refine lv_iadd hx hb dX5_takes_43 ?_
        refine lv_iconst (v := 3) hx hb dX5_takes_44 (by decide) ?_
        refine lv_iadd hx hb dX5_takes_45 ?_
        obtain ⟨g6, h⟩ := gd_s h
        refine va_iald hx hb hK hP 1 0 rfl rfl (ib_in g6) dX5_takes_46 ?_
        obtain ⟨g7, h⟩ := gd_s h
        refine va_iast hx hb hK hP hD hS 1 0 rfl rfl (ib_in g7) dX5_takes_47 (fun H locs hP hD hS => ?_)
        have hP : va_P G vwCl (wM cI cJ aM (upd z3.1 (69 + z3.2).toNatClampNeg (z3.1 ((69 + z3.2) + 3).toNatClampNeg)) tot tab goa bes tic txt par sav bwh bpr bse len mat ask hh ++ ([] : va_W)) H := hP
        have hD : va_D A (wM cI cJ aM (upd z3.1 (69 + z3.2).toNatClampNeg (z3.1 ((69 + z3.2) + 3).toNatClampNeg)) tot tab goa bes tic txt par sav bwh bpr bse len mat ask hh ++ ([] : va_W)) := hD
        refine lv_iinc (v := (z3.2 + 1)) (lv' := [(2, .int (z3.2 + 1)), (0, .ref (aM 0))]) hx hb dX5_takes_48 hl (k := 1) rfl rfl (by decide) rfl (fun ls hl => ?_)
        refine lv_goto (tgt := 15) hx hb dX5_takes_51 (by decide) ?_
        rw [← Option.some.inj h] at h3
        exact ih3 ((upd z3.1 (69 + z3.2).toNatClampNeg (z3.1 ((69 + z3.2) + 3).toNatClampNeg)), (z3.2 + 1)) _ _ _ (lp_b h3) hP hD hS (lv_sub hl [1, 0] rfl)
  exact hL3 _ ((upd row (68 : Int32).toNatClampNeg ((row (68 : Int32).toNatClampNeg) - 1)), (3 * p0)) _ _ _ hq3 hP hD hS (lv_sub hl [1, 0] rfl)

/-! X5_asks -/
def f_X5_asks_j48 (row : Nat → Int32) (tot : Nat → Int64) (sav : Int32) (v2 : Int32) (v3 : Int32) (v4 : Int32) (t0 : Int32) : Option (Int32 × (Nat → Int32) × (Nat → Int64) × Int32) :=
  (f_X5_puts row t0 v2 v3 v4).bind (fun q8 => gd (ib 68 708) (some ((q8 (68 : Int32).toNatClampNeg), q8, tot, sav)))
def f_X5_asks (row : Nat → Int32) (tot : Nat → Int64) (sav : Int32) (p0 : Int32) (p1 : Int32) (p2 : Int32) (p3 : Int32) : Option (Int32 × (Nat → Int32) × (Nat → Int64) × Int32) :=
  (f_X5_isRequest p1 p2 p3).bind (fun q1 => if q1 = 0 then (some ((-2000000002), row, tot, sav)) else (gd (ib 68 708) (if (row (68 : Int32).toNatClampNeg) = 10 then (some ((-2000000004), row, tot, sav)) else ((f_X5_saves row tot sav).bind (fun q5 => if p0 = 0 then (gd (ib 68 708) (f_X5_asks_j48 q5.1 q5.2.1 q5.2.2 p1 p2 p3 (q5.1 (68 : Int32).toNatClampNeg))) else (f_X5_asks_j48 q5.1 q5.2.1 q5.2.2 p1 p2 p3 0))))))

set_option maxHeartbeats 4000000 in
set_option maxRecDepth 100000 in
theorem c_X5_asks (l : Launch) (G : va_G) (cI cJ cZ cO cA : ClassId) (e : Nat × Nat) (aM : Nat → Nat) (sz : Nat) (row : Nat → Int32) (tot : Nat → Int64) (tab : Nat → Int64) (goa : Nat → Int64) (bes : Nat → Int64) (tic : Nat → Int64) (txt : Nat → Int32) (par : Nat → Int32) (sav : Int32) (bwh : Int64) (bpr : Int64) (bse : Int32) (len : Int32) (mat : Int32) (ask : Int32) (hh : Int64) (p0 : Int32) (p1 : Int32) (p2 : Int32) (p3 : Int32) {res : Int32 × (Nat → Int32) × (Nat → Int64) × Int32} (hf : f_X5_asks row tot sav p0 p1 p2 p3 = some res) : MetI l yX5_asks cX5_asks 5 .int ({ frames := 2, cells := 0, slots := 0, locals := 44 } : Room) [.ref (aM 0), .int p0, .int p1, .int p2, .int p3] G (ty5 cI cJ cZ cO cA) e (wM cI cJ aM row tot tab goa bes tic txt par sav bwh bpr bse len mat ask hh ++ ([] : va_W)) (wM cI cJ aM res.2.1 res.2.2.1 tab goa bes tic txt par res.2.2.2 bwh bpr bse len mat ask hh ++ ([] : va_W)) sz res.1 := by
  refine g_body (QQ := fun A => (qI G (ty5 cI cJ cZ cO cA) A (wM cI cJ aM res.2.1 res.2.2.1 tab goa bes tic txt par res.2.2.2 bwh bpr bse len mat ask hh ++ ([] : va_W)) res.1)) (own := RX5) (by decide) rfl (Nat.le_of_ble_eq_true rfl) ?_
  intro p ev s m below meth c A ls hx hb hr hml hown hts hlk hA hP hD hS hK hE hl
  have hl : lv_has ls 5 [(0, .ref (aM 0)), (1, .int p0), (2, .int p1), (3, .int p2), (4, .int p3)] := hl
  show W p l ev ({ frames := 2, cells := 0, slots := 0, locals := 44 } : Room) s m ([.ref (aM 0), .int p0, .int p1, .int p2, .int p3] : List Value).toArray below meth c s.heap [] 0 0 (MQ below (qI G (ty5 cI cJ cZ cO cA) A (wM cI cJ aM res.2.1 res.2.2.1 tab goa bes tic txt par res.2.2.2 bwh bpr bse len mat ask hh ++ ([] : va_W)) res.1) ([.ref (aM 0), .int p0, .int p1, .int p2, .int p3] : List Value).toArray s 0 0 A) (F0 m 0 ls [])
  have h := hf
  unfold f_X5_asks at h
  refine lv_iload_n hx hb dX5_asks_0 rfl (lv_at hl 2 rfl) ?_
  refine lv_iload_n hx hb dX5_asks_1 rfl (lv_at hl 3 rfl) ?_
  refine lv_iload hx hb dX5_asks_2 (lv_at hl 4 rfl) ?_
  obtain ⟨q1, hq1, h⟩ := bd_s h
  refine kSi (n := 3) (As := [.int p1, .int p2, .int p3]) (rest := []) hx hb hml hown hts (c_X5_isRequest l G cI cJ cZ cO cA e _ p1 p2 p3 hq1) (tb_S kw792 kw793 kw7 kw794) rfl rfl (by decide +kernel) ⟨Nat.le_of_ble_eq_true rfl, Nat.le_of_ble_eq_true rfl⟩ hK hP hD hS hA hE rfl rfl hl.1 (Nat.le_of_ble_eq_true rfl) ⟨Nat.zero_le _, Nat.zero_le _⟩ dX5_asks_4 (fun H locs hP hD hS => ?_)
  refine lv_if_ne (tgt := 13) hx hb dX5_asks_7 (by decide) (fun c2 => ?_) (fun c2 => ?_)
  · replace h := (if_neg c2).symm.trans h
    refine lv_aload_n hx hb dX5_asks_13 rfl (lv_at hl 0 rfl) ?_
    refine va_get (D := G) (ci := 5) (v := .ref (aM 1)) (C := RX5) (T := TX5) (N := 16) hx hb hts uX5 hown hK hP 0 rfl rfl 0 (by decide) (hts _ kw579) (fun _ h9 => h9) rfl dX5_asks_14 ?_
    refine lv_bipush (v := 68) hx hb dX5_asks_17 (by decide) ?_
    obtain ⟨g3, h⟩ := gd_s h
    refine va_iald hx hb hK hP 1 0 rfl rfl (ib_in g3) dX5_asks_19 ?_
    refine lv_bipush (v := 10) hx hb dX5_asks_20 (by decide) ?_
    refine lv_icmp_ne (tgt := 28) hx hb dX5_asks_22 (by decide) (fun c4 => ?_) (fun c4 => ?_)
    · replace h := (if_neg c4).symm.trans h
      refine lv_aload_n hx hb dX5_asks_28 rfl (lv_at hl 0 rfl) ?_
      obtain ⟨q5, hq5, h⟩ := bd_s h
      refine kVv (n := 0) (C := RX5) (ws' := wM cI cJ aM q5.1 q5.2.1 tab goa bes tic txt par q5.2.2 bwh bpr bse len mat ask hh ++ ([] : va_W)) (As := []) (rest := []) hx hb hml hown hts (c_X5_saves l G cI cJ cZ cO cA e aM _ row tot tab goa bes tic txt par sav bwh bpr bse len mat ask hh hq5) (tb_V kw641 kw643 kv14 kw7 kw644) rfl rfl (by decide +kernel) ⟨Nat.le_of_ble_eq_true rfl, Nat.le_of_ble_eq_true rfl⟩ hK hP hD hS hA hE 0 rfl rfl [0, 1, 2, 3, 4, 5, 6, 7, 8] [] rfl rfl rfl 9 ⟨rfl, rfl⟩ (by decide +kernel) (by decide +kernel) rfl rfl hl.1 (Nat.le_of_ble_eq_true rfl) ⟨Nat.zero_le _, Nat.zero_le _⟩ dX5_asks_29 (fun H locs hP hD hS => ?_)
      refine lv_aload_n hx hb dX5_asks_32 rfl (lv_at hl 0 rfl) ?_
      refine lv_iload_n hx hb dX5_asks_33 rfl (lv_at hl 1 rfl) ?_
      have hJ7 : ∀ (row_7 : Nat → Int32) (tot_7 : Nat → Int64) (sav_7 : Int32) (t0_7 : Int32) (H : Heap) (locs : List Loc) (ls : Array Slot), f_X5_asks_j48 row_7 tot_7 sav_7 p1 p2 p3 t0_7 = some res → va_P G vwCl (wM cI cJ aM row_7 tot_7 tab goa bes tic txt par sav_7 bwh bpr bse len mat ask hh ++ ([] : va_W)) H → va_D A (wM cI cJ aM row_7 tot_7 tab goa bes tic txt par sav_7 bwh bpr bse len mat ask hh ++ ([] : va_W)) → va_S A s.heap H locs → lv_has ls 5 [(0, .ref (aM 0)), (2, .int p1), (3, .int p2), (4, .int p3)] → W p l ev ({ frames := 2, cells := 0, slots := 0, locals := 44 } : Room) s m ([.ref (aM 0), .int p0, .int p1, .int p2, .int p3] : List Value).toArray below meth c H locs 0 0 (MQ below (qI G (ty5 cI cJ cZ cO cA) A (wM cI cJ aM res.2.1 res.2.2.1 tab goa bes tic txt par res.2.2.2 bwh bpr bse len mat ask hh ++ ([] : va_W)) res.1) ([.ref (aM 0), .int p0, .int p1, .int p2, .int p3] : List Value).toArray s 0 0 A) (F0 m 48 ls [.int t0_7, .ref (aM 0)]) := by
        intro row_7 tot_7 sav_7 t0_7 H locs ls h hP hD hS hl
        unfold f_X5_asks_j48 at h
        refine lv_iload_n hx hb dX5_asks_48 rfl (lv_at hl 1 rfl) ?_
        refine lv_iload_n hx hb dX5_asks_49 rfl (lv_at hl 2 rfl) ?_
        refine lv_iload hx hb dX5_asks_50 (lv_at hl 3 rfl) ?_
        obtain ⟨q8, hq8, h⟩ := bd_s h
        refine kVv (n := 4) (C := RX5) (ws' := wM cI cJ aM q8 tot_7 tab goa bes tic txt par sav_7 bwh bpr bse len mat ask hh ++ ([] : va_W)) (As := [.int t0_7, .int p1, .int p2, .int p3]) (rest := []) hx hb hml hown hts (c_X5_puts l G cI cJ cZ cO cA e aM _ row_7 tot_7 tab goa bes tic txt par sav_7 bwh bpr bse len mat ask hh t0_7 p1 p2 p3 hq8) (tb_V kw795 kw797 kv33 kw7 kw798) rfl rfl (by decide +kernel) ⟨Nat.le_of_ble_eq_true rfl, Nat.le_of_ble_eq_true rfl⟩ hK hP hD hS hA hE 0 rfl rfl [0, 1, 2, 3, 4, 5, 6, 7, 8] [] rfl rfl rfl 9 ⟨rfl, rfl⟩ (by decide +kernel) (by decide +kernel) rfl rfl hl.1 (Nat.le_of_ble_eq_true rfl) ⟨Nat.zero_le _, Nat.zero_le _⟩ dX5_asks_52 (fun H locs hP hD hS => ?_)
        refine lv_aload_n hx hb dX5_asks_55 rfl (lv_at hl 0 rfl) ?_
        refine va_get (D := G) (ci := 5) (v := .ref (aM 1)) (C := RX5) (T := TX5) (N := 16) hx hb hts uX5 hown hK hP 0 rfl rfl 0 (by decide) (hts _ kw579) (fun _ h9 => h9) rfl dX5_asks_56 ?_
        refine lv_bipush (v := 68) hx hb dX5_asks_59 (by decide) ?_
        obtain ⟨g9, h⟩ := gd_s h
        refine va_iald hx hb hK hP 1 0 rfl rfl (ib_in g9) dX5_asks_61 ?_
        rw [← Option.some.inj h]
        exact kri hx hb hr hlk rfl rfl hP hD hS hK dX5_asks_62
      refine lv_if_eq (tgt := 41) hx hb dX5_asks_34 (by decide) (fun c6 => ?_) (fun c6 => ?_)
      · replace h := (if_pos c6).symm.trans h
        refine lv_aload_n hx hb dX5_asks_41 rfl (lv_at hl 0 rfl) ?_
        refine va_get (D := G) (ci := 5) (v := .ref (aM 1)) (C := RX5) (T := TX5) (N := 16) hx hb hts uX5 hown hK hP 0 rfl rfl 0 (by decide) (hts _ kw579) (fun _ h9 => h9) rfl dX5_asks_42 ?_
        refine lv_bipush (v := 68) hx hb dX5_asks_45 (by decide) ?_
        obtain ⟨g10, h⟩ := gd_s h
        refine va_iald hx hb hK hP 1 0 rfl rfl (ib_in g10) dX5_asks_47 ?_
        exact hJ7 q5.1 q5.2.1 q5.2.2 (q5.1 (68 : Int32).toNatClampNeg) _ _ _ h hP hD hS (lv_sub hl [0, 2, 3, 4] rfl)
      · replace h := (if_neg c6).symm.trans h
        refine lv_iconst (v := 0) hx hb dX5_asks_37 (by decide) ?_
        refine lv_goto (tgt := 48) hx hb dX5_asks_38 (by decide) ?_
        exact hJ7 q5.1 q5.2.1 q5.2.2 0 _ _ _ h hP hD hS (lv_sub hl [0, 2, 3, 4] rfl)
    · replace h := (if_pos c4).symm.trans h
      refine lv_ldc (v := (-2000000004)) hx hb hown (hts _ kw640) dX5_asks_25 ?_
      rw [← Option.some.inj h]
      exact kri hx hb hr hlk rfl rfl hP hD hS hK dX5_asks_27
  · replace h := (if_pos c2).symm.trans h
    refine lv_ldc (v := (-2000000002)) hx hb hown (hts _ kw639) dX5_asks_10 ?_
    rw [← Option.some.inj h]
    exact kri hx hb hr hlk rfl rfl hP hD hS hK dX5_asks_12

/-! X5_request -/
def f_X5_request (row : Nat → Int32) (tot : Nat → Int64) (sav : Int32) (p0 : Int32) (p1 : Int32) (p2 : Int32) : Option (Int32 × (Nat → Int32) × (Nat → Int64) × Int32) :=
  (f_X5_asks row tot sav 0 p0 p1 p2).bind (fun q1 => some (q1.1, q1.2.1, q1.2.2.1, q1.2.2.2))

set_option maxHeartbeats 4000000 in
set_option maxRecDepth 100000 in
theorem c_X5_request (l : Launch) (G : va_G) (cI cJ cZ cO cA : ClassId) (e : Nat × Nat) (aM : Nat → Nat) (sz : Nat) (row : Nat → Int32) (tot : Nat → Int64) (tab : Nat → Int64) (goa : Nat → Int64) (bes : Nat → Int64) (tic : Nat → Int64) (txt : Nat → Int32) (par : Nat → Int32) (sav : Int32) (bwh : Int64) (bpr : Int64) (bse : Int32) (len : Int32) (mat : Int32) (ask : Int32) (hh : Int64) (p0 : Int32) (p1 : Int32) (p2 : Int32) {res : Int32 × (Nat → Int32) × (Nat → Int64) × Int32} (hf : f_X5_request row tot sav p0 p1 p2 = some res) : MetI l yX5_request cX5_request 4 .int ({ frames := 3, cells := 0, slots := 0, locals := 68 } : Room) [.ref (aM 0), .int p0, .int p1, .int p2] G (ty5 cI cJ cZ cO cA) e (wM cI cJ aM row tot tab goa bes tic txt par sav bwh bpr bse len mat ask hh ++ ([] : va_W)) (wM cI cJ aM res.2.1 res.2.2.1 tab goa bes tic txt par res.2.2.2 bwh bpr bse len mat ask hh ++ ([] : va_W)) sz res.1 := by
  refine g_body (QQ := fun A => (qI G (ty5 cI cJ cZ cO cA) A (wM cI cJ aM res.2.1 res.2.2.1 tab goa bes tic txt par res.2.2.2 bwh bpr bse len mat ask hh ++ ([] : va_W)) res.1)) (own := RX5) (by decide) rfl (Nat.le_of_ble_eq_true rfl) ?_
  intro p ev s m below meth c A ls hx hb hr hml hown hts hlk hA hP hD hS hK hE hl
  have hl : lv_has ls 4 [(0, .ref (aM 0)), (1, .int p0), (2, .int p1), (3, .int p2)] := hl
  show W p l ev ({ frames := 3, cells := 0, slots := 0, locals := 68 } : Room) s m ([.ref (aM 0), .int p0, .int p1, .int p2] : List Value).toArray below meth c s.heap [] 0 0 (MQ below (qI G (ty5 cI cJ cZ cO cA) A (wM cI cJ aM res.2.1 res.2.2.1 tab goa bes tic txt par res.2.2.2 bwh bpr bse len mat ask hh ++ ([] : va_W)) res.1) ([.ref (aM 0), .int p0, .int p1, .int p2] : List Value).toArray s 0 0 A) (F0 m 0 ls [])
  have h := hf
  unfold f_X5_request at h
  refine lv_aload_n hx hb dX5_request_0 rfl (lv_at hl 0 rfl) ?_
  refine lv_iconst (v := 0) hx hb dX5_request_1 (by decide) ?_
  refine lv_iload_n hx hb dX5_request_2 rfl (lv_at hl 1 rfl) ?_
  refine lv_iload_n hx hb dX5_request_3 rfl (lv_at hl 2 rfl) ?_
  refine lv_iload_n hx hb dX5_request_4 rfl (lv_at hl 3 rfl) ?_
  obtain ⟨q1, hq1, h⟩ := bd_s h
  refine kVi (n := 4) (C := RX5) (ws' := wM cI cJ aM q1.2.1 q1.2.2.1 tab goa bes tic txt par q1.2.2.2 bwh bpr bse len mat ask hh ++ ([] : va_W)) (As := [.int 0, .int p0, .int p1, .int p2]) (rest := []) hx hb hml hown hts (c_X5_asks l G cI cJ cZ cO cA e aM _ row tot tab goa bes tic txt par sav bwh bpr bse len mat ask hh 0 p0 p1 p2 hq1) (tb_V kw788 kw790 kv32 kw7 kw791) rfl rfl (by decide +kernel) ⟨Nat.le_of_ble_eq_true rfl, Nat.le_of_ble_eq_true rfl⟩ hK hP hD hS hA hE 0 rfl rfl [0, 1, 2, 3, 4, 5, 6, 7, 8] [] rfl rfl rfl 9 ⟨rfl, rfl⟩ (by decide +kernel) (by decide +kernel) rfl rfl hl.1 (Nat.le_of_ble_eq_true rfl) ⟨Nat.zero_le _, Nat.zero_le _⟩ dX5_request_5 (fun H locs hP hD hS => ?_)
  rw [← Option.some.inj h]
  exact kri hx hb hr hlk rfl rfl hP hD hS hK dX5_request_8

/-! X5_urge -/
def f_X5_urge (row : Nat → Int32) (tot : Nat → Int64) (sav : Int32) (p0 : Int32) (p1 : Int32) (p2 : Int32) : Option (Int32 × (Nat → Int32) × (Nat → Int64) × Int32) :=
  (f_X5_asks row tot sav 1 p0 p1 p2).bind (fun q1 => some (q1.1, q1.2.1, q1.2.2.1, q1.2.2.2))

set_option maxHeartbeats 4000000 in
set_option maxRecDepth 100000 in
theorem c_X5_urge (l : Launch) (G : va_G) (cI cJ cZ cO cA : ClassId) (e : Nat × Nat) (aM : Nat → Nat) (sz : Nat) (row : Nat → Int32) (tot : Nat → Int64) (tab : Nat → Int64) (goa : Nat → Int64) (bes : Nat → Int64) (tic : Nat → Int64) (txt : Nat → Int32) (par : Nat → Int32) (sav : Int32) (bwh : Int64) (bpr : Int64) (bse : Int32) (len : Int32) (mat : Int32) (ask : Int32) (hh : Int64) (p0 : Int32) (p1 : Int32) (p2 : Int32) {res : Int32 × (Nat → Int32) × (Nat → Int64) × Int32} (hf : f_X5_urge row tot sav p0 p1 p2 = some res) : MetI l yX5_urge cX5_urge 4 .int ({ frames := 3, cells := 0, slots := 0, locals := 68 } : Room) [.ref (aM 0), .int p0, .int p1, .int p2] G (ty5 cI cJ cZ cO cA) e (wM cI cJ aM row tot tab goa bes tic txt par sav bwh bpr bse len mat ask hh ++ ([] : va_W)) (wM cI cJ aM res.2.1 res.2.2.1 tab goa bes tic txt par res.2.2.2 bwh bpr bse len mat ask hh ++ ([] : va_W)) sz res.1 := by
  refine g_body (QQ := fun A => (qI G (ty5 cI cJ cZ cO cA) A (wM cI cJ aM res.2.1 res.2.2.1 tab goa bes tic txt par res.2.2.2 bwh bpr bse len mat ask hh ++ ([] : va_W)) res.1)) (own := RX5) (by decide) rfl (Nat.le_of_ble_eq_true rfl) ?_
  intro p ev s m below meth c A ls hx hb hr hml hown hts hlk hA hP hD hS hK hE hl
  have hl : lv_has ls 4 [(0, .ref (aM 0)), (1, .int p0), (2, .int p1), (3, .int p2)] := hl
  show W p l ev ({ frames := 3, cells := 0, slots := 0, locals := 68 } : Room) s m ([.ref (aM 0), .int p0, .int p1, .int p2] : List Value).toArray below meth c s.heap [] 0 0 (MQ below (qI G (ty5 cI cJ cZ cO cA) A (wM cI cJ aM res.2.1 res.2.2.1 tab goa bes tic txt par res.2.2.2 bwh bpr bse len mat ask hh ++ ([] : va_W)) res.1) ([.ref (aM 0), .int p0, .int p1, .int p2] : List Value).toArray s 0 0 A) (F0 m 0 ls [])
  have h := hf
  unfold f_X5_urge at h
  refine lv_aload_n hx hb dX5_urge_0 rfl (lv_at hl 0 rfl) ?_
  refine lv_iconst (v := 1) hx hb dX5_urge_1 (by decide) ?_
  refine lv_iload_n hx hb dX5_urge_2 rfl (lv_at hl 1 rfl) ?_
  refine lv_iload_n hx hb dX5_urge_3 rfl (lv_at hl 2 rfl) ?_
  refine lv_iload_n hx hb dX5_urge_4 rfl (lv_at hl 3 rfl) ?_
  obtain ⟨q1, hq1, h⟩ := bd_s h
  refine kVi (n := 4) (C := RX5) (ws' := wM cI cJ aM q1.2.1 q1.2.2.1 tab goa bes tic txt par q1.2.2.2 bwh bpr bse len mat ask hh ++ ([] : va_W)) (As := [.int 1, .int p0, .int p1, .int p2]) (rest := []) hx hb hml hown hts (c_X5_asks l G cI cJ cZ cO cA e aM _ row tot tab goa bes tic txt par sav bwh bpr bse len mat ask hh 1 p0 p1 p2 hq1) (tb_V kw788 kw790 kv32 kw7 kw791) rfl rfl (by decide +kernel) ⟨Nat.le_of_ble_eq_true rfl, Nat.le_of_ble_eq_true rfl⟩ hK hP hD hS hA hE 0 rfl rfl [0, 1, 2, 3, 4, 5, 6, 7, 8] [] rfl rfl rfl 9 ⟨rfl, rfl⟩ (by decide +kernel) (by decide +kernel) rfl rfl hl.1 (Nat.le_of_ble_eq_true rfl) ⟨Nat.zero_le _, Nat.zero_le _⟩ dX5_urge_5 (fun H locs hP hD hS => ?_)
  rw [← Option.some.inj h]
  exact kri hx hb hr hlk rfl rfl hP hD hS hK dX5_urge_8

/-! X5_isPlace -/
def f_X5_isPlace (row : Nat → Int32) (p0 : Int32) : Option (Int32) :=
  gd (ib 68 708) ((f_X5_in p0 0 ((row (68 : Int32).toNatClampNeg) - 1)).bind (fun q2 => gd (zb q2) (some q2)))

set_option maxHeartbeats 4000000 in
set_option maxRecDepth 100000 in
theorem c_X5_isPlace (l : Launch) (G : va_G) (cI cJ cZ cO cA : ClassId) (e : Nat × Nat) (aM : Nat → Nat) (sz : Nat) (row : Nat → Int32) (tot : Nat → Int64) (tab : Nat → Int64) (goa : Nat → Int64) (bes : Nat → Int64) (tic : Nat → Int64) (txt : Nat → Int32) (par : Nat → Int32) (sav : Int32) (bwh : Int64) (bpr : Int64) (bse : Int32) (len : Int32) (mat : Int32) (ask : Int32) (hh : Int64) (p0 : Int32) {res : Int32} (hf : f_X5_isPlace row p0 = some res) : MetI l yX5_isPlace cX5_isPlace 2 .boolean ({ frames := 1, cells := 0, slots := 0, locals := 22 } : Room) [.ref (aM 0), .int p0] G (ty5 cI cJ cZ cO cA) e (wM cI cJ aM row tot tab goa bes tic txt par sav bwh bpr bse len mat ask hh ++ ([] : va_W)) (wM cI cJ aM row tot tab goa bes tic txt par sav bwh bpr bse len mat ask hh ++ ([] : va_W)) sz res := by
  refine g_body (QQ := fun A => (qI G (ty5 cI cJ cZ cO cA) A (wM cI cJ aM row tot tab goa bes tic txt par sav bwh bpr bse len mat ask hh ++ ([] : va_W)) res)) (own := RX5) (by decide) rfl (Nat.le_of_ble_eq_true rfl) ?_
  intro p ev s m below meth c A ls hx hb hr hml hown hts hlk hA hP hD hS hK hE hl
  have hl : lv_has ls 2 [(0, .ref (aM 0)), (1, .int p0)] := hl
  show W p l ev ({ frames := 1, cells := 0, slots := 0, locals := 22 } : Room) s m ([.ref (aM 0), .int p0] : List Value).toArray below meth c s.heap [] 0 0 (MQ below (qI G (ty5 cI cJ cZ cO cA) A (wM cI cJ aM row tot tab goa bes tic txt par sav bwh bpr bse len mat ask hh ++ ([] : va_W)) res) ([.ref (aM 0), .int p0] : List Value).toArray s 0 0 A) (F0 m 0 ls [])
  have h := hf
  unfold f_X5_isPlace at h
  refine lv_iload_n hx hb dX5_isPlace_0 rfl (lv_at hl 1 rfl) ?_
  refine lv_iconst (v := 0) hx hb dX5_isPlace_1 (by decide) ?_
  refine lv_aload_n hx hb dX5_isPlace_2 rfl (lv_at hl 0 rfl) ?_
  refine va_get (D := G) (ci := 5) (v := .ref (aM 1)) (C := RX5) (T := TX5) (N := 16) hx hb hts uX5 hown hK hP 0 rfl rfl 0 (by decide) (hts _ kw579) (fun _ h9 => h9) rfl dX5_isPlace_3 ?_
  refine lv_bipush (v := 68) hx hb dX5_isPlace_6 (by decide) ?_
  obtain ⟨g1, h⟩ := gd_s h
  refine va_iald hx hb hK hP 1 0 rfl rfl (ib_in g1) dX5_isPlace_8 ?_
  refine lv_iconst (v := 1) hx hb dX5_isPlace_9 (by decide) ?_
  refine lv_isub hx hb dX5_isPlace_10 ?_
  obtain ⟨q2, hq2, h⟩ := bd_s h
  refine kSi (n := 3) (As := [.int p0, .int 0, .int ((row (68 : Int32).toNatClampNeg) - 1)]) (rest := []) hx hb hml hown hts (c_X5_in l G cI cJ cZ cO cA e _ p0 0 ((row (68 : Int32).toNatClampNeg) - 1) hq2) (tb_S kw635 kw636 kw7 kw637) rfl rfl (by decide +kernel) ⟨Nat.le_of_ble_eq_true rfl, Nat.le_of_ble_eq_true rfl⟩ hK hP hD hS hA hE rfl rfl hl.1 (Nat.le_of_ble_eq_true rfl) ⟨Nat.zero_le _, Nat.zero_le _⟩ dX5_isPlace_11 (fun H locs hP hD hS => ?_)
  obtain ⟨g3, h⟩ := gd_s h
  rw [← Option.some.inj h]
  exact kri hx hb hr hlk (zb_s g3) rfl hP hD hS hK dX5_isPlace_14

/-! X5_cancel -/
def f_X5_cancel (row : Nat → Int32) (tot : Nat → Int64) (sav : Int32) (p0 : Int32) : Option (Int32 × (Nat → Int32) × (Nat → Int64) × Int32) :=
  (f_X5_isPlace row p0).bind (fun q1 => if q1 = 0 then (some ((-2000000001), row, tot, sav)) else ((f_X5_saves row tot sav).bind (fun q3 => (f_X5_takes q3.1 p0).bind (fun q4 => gd (ib 68 708) (some ((q4 (68 : Int32).toNatClampNeg), q4, q3.2.1, q3.2.2))))))

set_option maxHeartbeats 4000000 in
set_option maxRecDepth 100000 in
theorem c_X5_cancel (l : Launch) (G : va_G) (cI cJ cZ cO cA : ClassId) (e : Nat × Nat) (aM : Nat → Nat) (sz : Nat) (row : Nat → Int32) (tot : Nat → Int64) (tab : Nat → Int64) (goa : Nat → Int64) (bes : Nat → Int64) (tic : Nat → Int64) (txt : Nat → Int32) (par : Nat → Int32) (sav : Int32) (bwh : Int64) (bpr : Int64) (bse : Int32) (len : Int32) (mat : Int32) (ask : Int32) (hh : Int64) (p0 : Int32) {res : Int32 × (Nat → Int32) × (Nat → Int64) × Int32} (hf : f_X5_cancel row tot sav p0 = some res) : MetI l yX5_cancel cX5_cancel 2 .int ({ frames := 2, cells := 0, slots := 0, locals := 44 } : Room) [.ref (aM 0), .int p0] G (ty5 cI cJ cZ cO cA) e (wM cI cJ aM row tot tab goa bes tic txt par sav bwh bpr bse len mat ask hh ++ ([] : va_W)) (wM cI cJ aM res.2.1 res.2.2.1 tab goa bes tic txt par res.2.2.2 bwh bpr bse len mat ask hh ++ ([] : va_W)) sz res.1 := by
  refine g_body (QQ := fun A => (qI G (ty5 cI cJ cZ cO cA) A (wM cI cJ aM res.2.1 res.2.2.1 tab goa bes tic txt par res.2.2.2 bwh bpr bse len mat ask hh ++ ([] : va_W)) res.1)) (own := RX5) (by decide) rfl (Nat.le_of_ble_eq_true rfl) ?_
  intro p ev s m below meth c A ls hx hb hr hml hown hts hlk hA hP hD hS hK hE hl
  have hl : lv_has ls 2 [(0, .ref (aM 0)), (1, .int p0)] := hl
  show W p l ev ({ frames := 2, cells := 0, slots := 0, locals := 44 } : Room) s m ([.ref (aM 0), .int p0] : List Value).toArray below meth c s.heap [] 0 0 (MQ below (qI G (ty5 cI cJ cZ cO cA) A (wM cI cJ aM res.2.1 res.2.2.1 tab goa bes tic txt par res.2.2.2 bwh bpr bse len mat ask hh ++ ([] : va_W)) res.1) ([.ref (aM 0), .int p0] : List Value).toArray s 0 0 A) (F0 m 0 ls [])
  have h := hf
  unfold f_X5_cancel at h
  refine lv_aload_n hx hb dX5_cancel_0 rfl (lv_at hl 0 rfl) ?_
  refine lv_iload_n hx hb dX5_cancel_1 rfl (lv_at hl 1 rfl) ?_
  obtain ⟨q1, hq1, h⟩ := bd_s h
  refine kVi (n := 1) (C := RX5) (ws' := wM cI cJ aM row tot tab goa bes tic txt par sav bwh bpr bse len mat ask hh ++ ([] : va_W)) (As := [.int p0]) (rest := []) hx hb hml hown hts (c_X5_isPlace l G cI cJ cZ cO cA e aM _ row tot tab goa bes tic txt par sav bwh bpr bse len mat ask hh p0 hq1) (tb_V kw807 kw809 kv34 kw7 kw810) rfl rfl (by decide +kernel) ⟨Nat.le_of_ble_eq_true rfl, Nat.le_of_ble_eq_true rfl⟩ hK hP hD hS hA hE 0 rfl rfl [0, 1, 2, 3, 4, 5, 6, 7, 8] [] rfl rfl rfl 9 ⟨rfl, rfl⟩ (by decide +kernel) (by decide +kernel) rfl rfl hl.1 (Nat.le_of_ble_eq_true rfl) ⟨Nat.zero_le _, Nat.zero_le _⟩ dX5_cancel_2 (fun H locs hP hD hS => ?_)
  refine lv_if_ne (tgt := 11) hx hb dX5_cancel_5 (by decide) (fun c2 => ?_) (fun c2 => ?_)
  · replace h := (if_neg c2).symm.trans h
    refine lv_aload_n hx hb dX5_cancel_11 rfl (lv_at hl 0 rfl) ?_
    obtain ⟨q3, hq3, h⟩ := bd_s h
    refine kVv (n := 0) (C := RX5) (ws' := wM cI cJ aM q3.1 q3.2.1 tab goa bes tic txt par q3.2.2 bwh bpr bse len mat ask hh ++ ([] : va_W)) (As := []) (rest := []) hx hb hml hown hts (c_X5_saves l G cI cJ cZ cO cA e aM _ row tot tab goa bes tic txt par sav bwh bpr bse len mat ask hh hq3) (tb_V kw641 kw643 kv14 kw7 kw644) rfl rfl (by decide +kernel) ⟨Nat.le_of_ble_eq_true rfl, Nat.le_of_ble_eq_true rfl⟩ hK hP hD hS hA hE 0 rfl rfl [0, 1, 2, 3, 4, 5, 6, 7, 8] [] rfl rfl rfl 9 ⟨rfl, rfl⟩ (by decide +kernel) (by decide +kernel) rfl rfl hl.1 (Nat.le_of_ble_eq_true rfl) ⟨Nat.zero_le _, Nat.zero_le _⟩ dX5_cancel_12 (fun H locs hP hD hS => ?_)
    refine lv_aload_n hx hb dX5_cancel_15 rfl (lv_at hl 0 rfl) ?_
    refine lv_iload_n hx hb dX5_cancel_16 rfl (lv_at hl 1 rfl) ?_
    obtain ⟨q4, hq4, h⟩ := bd_s h
    refine kVv (n := 1) (C := RX5) (ws' := wM cI cJ aM q4 q3.2.1 tab goa bes tic txt par q3.2.2 bwh bpr bse len mat ask hh ++ ([] : va_W)) (As := [.int p0]) (rest := []) hx hb hml hown hts (c_X5_takes l G cI cJ cZ cO cA e aM _ q3.1 q3.2.1 tab goa bes tic txt par q3.2.2 bwh bpr bse len mat ask hh p0 hq4) (tb_V kw811 kw813 kv35 kw7 kw814) rfl rfl (by decide +kernel) ⟨Nat.le_of_ble_eq_true rfl, Nat.le_of_ble_eq_true rfl⟩ hK hP hD hS hA hE 0 rfl rfl [0, 1, 2, 3, 4, 5, 6, 7, 8] [] rfl rfl rfl 9 ⟨rfl, rfl⟩ (by decide +kernel) (by decide +kernel) rfl rfl hl.1 (Nat.le_of_ble_eq_true rfl) ⟨Nat.zero_le _, Nat.zero_le _⟩ dX5_cancel_17 (fun H locs hP hD hS => ?_)
    refine lv_aload_n hx hb dX5_cancel_20 rfl (lv_at hl 0 rfl) ?_
    refine va_get (D := G) (ci := 5) (v := .ref (aM 1)) (C := RX5) (T := TX5) (N := 16) hx hb hts uX5 hown hK hP 0 rfl rfl 0 (by decide) (hts _ kw579) (fun _ h9 => h9) rfl dX5_cancel_21 ?_
    refine lv_bipush (v := 68) hx hb dX5_cancel_24 (by decide) ?_
    obtain ⟨g5, h⟩ := gd_s h
    refine va_iald hx hb hK hP 1 0 rfl rfl (ib_in g5) dX5_cancel_26 ?_
    rw [← Option.some.inj h]
    exact kri hx hb hr hlk rfl rfl hP hD hS hK dX5_cancel_27
  · replace h := (if_pos c2).symm.trans h
    refine lv_ldc (v := (-2000000001)) hx hb hown (hts _ kw638) dX5_cancel_8 ?_
    rw [← Option.some.inj h]
    exact kri hx hb hr hlk rfl rfl hP hD hS hK dX5_cancel_10

/-! X5_queued -/
def f_X5_queued (row : Nat → Int32) : Option (Int32) :=
  gd (ib 68 708) (some (row (68 : Int32).toNatClampNeg))

set_option maxHeartbeats 4000000 in
set_option maxRecDepth 100000 in
theorem c_X5_queued (l : Launch) (G : va_G) (cI cJ cZ cO cA : ClassId) (e : Nat × Nat) (aM : Nat → Nat) (sz : Nat) (row : Nat → Int32) (tot : Nat → Int64) (tab : Nat → Int64) (goa : Nat → Int64) (bes : Nat → Int64) (tic : Nat → Int64) (txt : Nat → Int32) (par : Nat → Int32) (sav : Int32) (bwh : Int64) (bpr : Int64) (bse : Int32) (len : Int32) (mat : Int32) (ask : Int32) (hh : Int64) {res : Int32} (hf : f_X5_queued row = some res) : MetI l yX5_queued cX5_queued 1 .int ({ frames := 0, cells := 0, slots := 0, locals := 0 } : Room) [.ref (aM 0)] G (ty5 cI cJ cZ cO cA) e (wM cI cJ aM row tot tab goa bes tic txt par sav bwh bpr bse len mat ask hh ++ ([] : va_W)) (wM cI cJ aM row tot tab goa bes tic txt par sav bwh bpr bse len mat ask hh ++ ([] : va_W)) sz res := by
  refine g_body (QQ := fun A => (qI G (ty5 cI cJ cZ cO cA) A (wM cI cJ aM row tot tab goa bes tic txt par sav bwh bpr bse len mat ask hh ++ ([] : va_W)) res)) (own := RX5) (by decide) rfl (Nat.le_of_ble_eq_true rfl) ?_
  intro p ev s m below meth c A ls hx hb hr hml hown hts hlk hA hP hD hS hK hE hl
  have hl : lv_has ls 1 [(0, .ref (aM 0))] := hl
  show W p l ev ({ frames := 0, cells := 0, slots := 0, locals := 0 } : Room) s m ([.ref (aM 0)] : List Value).toArray below meth c s.heap [] 0 0 (MQ below (qI G (ty5 cI cJ cZ cO cA) A (wM cI cJ aM row tot tab goa bes tic txt par sav bwh bpr bse len mat ask hh ++ ([] : va_W)) res) ([.ref (aM 0)] : List Value).toArray s 0 0 A) (F0 m 0 ls [])
  have h := hf
  unfold f_X5_queued at h
  refine lv_aload_n hx hb dX5_queued_0 rfl (lv_at hl 0 rfl) ?_
  refine va_get (D := G) (ci := 5) (v := .ref (aM 1)) (C := RX5) (T := TX5) (N := 16) hx hb hts uX5 hown hK hP 0 rfl rfl 0 (by decide) (hts _ kw579) (fun _ h9 => h9) rfl dX5_queued_1 ?_
  refine lv_bipush (v := 68) hx hb dX5_queued_4 (by decide) ?_
  obtain ⟨g1, h⟩ := gd_s h
  refine va_iald hx hb hK hP 1 0 rfl rfl (ib_in g1) dX5_queued_6 ?_
  rw [← Option.some.inj h]
  exact kri hx hb hr hlk rfl rfl hP hD hS hK dX5_queued_7

/-! X5_requested -/
def f_X5_requested_j31 : Option (Int32) :=
  some (-2000000001)
def f_X5_requested (row : Nat → Int32) (p0 : Int32) (p1 : Int32) : Option (Int32) :=
  (f_X5_isPlace row p0).bind (fun q1 => if q1 = 0 then (f_X5_requested_j31) else ((f_X5_isPart p1).bind (fun q4 => if q4 = 0 then (f_X5_requested_j31) else (gd (ib ((69 + (3 * p0)) + p1) 708) (some (row ((69 + (3 * p0)) + p1).toNatClampNeg))))))

set_option maxHeartbeats 4000000 in
set_option maxRecDepth 100000 in
theorem c_X5_requested (l : Launch) (G : va_G) (cI cJ cZ cO cA : ClassId) (e : Nat × Nat) (aM : Nat → Nat) (sz : Nat) (row : Nat → Int32) (tot : Nat → Int64) (tab : Nat → Int64) (goa : Nat → Int64) (bes : Nat → Int64) (tic : Nat → Int64) (txt : Nat → Int32) (par : Nat → Int32) (sav : Int32) (bwh : Int64) (bpr : Int64) (bse : Int32) (len : Int32) (mat : Int32) (ask : Int32) (hh : Int64) (p0 : Int32) (p1 : Int32) {res : Int32} (hf : f_X5_requested row p0 p1 = some res) : MetI l yX5_requested cX5_requested 3 .int ({ frames := 2, cells := 0, slots := 0, locals := 43 } : Room) [.ref (aM 0), .int p0, .int p1] G (ty5 cI cJ cZ cO cA) e (wM cI cJ aM row tot tab goa bes tic txt par sav bwh bpr bse len mat ask hh ++ ([] : va_W)) (wM cI cJ aM row tot tab goa bes tic txt par sav bwh bpr bse len mat ask hh ++ ([] : va_W)) sz res := by
  refine g_body (QQ := fun A => (qI G (ty5 cI cJ cZ cO cA) A (wM cI cJ aM row tot tab goa bes tic txt par sav bwh bpr bse len mat ask hh ++ ([] : va_W)) res)) (own := RX5) (by decide) rfl (Nat.le_of_ble_eq_true rfl) ?_
  intro p ev s m below meth c A ls hx hb hr hml hown hts hlk hA hP hD hS hK hE hl
  have hl : lv_has ls 3 [(0, .ref (aM 0)), (1, .int p0), (2, .int p1)] := hl
  show W p l ev ({ frames := 2, cells := 0, slots := 0, locals := 43 } : Room) s m ([.ref (aM 0), .int p0, .int p1] : List Value).toArray below meth c s.heap [] 0 0 (MQ below (qI G (ty5 cI cJ cZ cO cA) A (wM cI cJ aM row tot tab goa bes tic txt par sav bwh bpr bse len mat ask hh ++ ([] : va_W)) res) ([.ref (aM 0), .int p0, .int p1] : List Value).toArray s 0 0 A) (F0 m 0 ls [])
  have h := hf
  unfold f_X5_requested at h
  refine lv_aload_n hx hb dX5_requested_0 rfl (lv_at hl 0 rfl) ?_
  refine lv_iload_n hx hb dX5_requested_1 rfl (lv_at hl 1 rfl) ?_
  obtain ⟨q1, hq1, h⟩ := bd_s h
  refine kVi (n := 1) (C := RX5) (ws' := wM cI cJ aM row tot tab goa bes tic txt par sav bwh bpr bse len mat ask hh ++ ([] : va_W)) (As := [.int p0]) (rest := []) hx hb hml hown hts (c_X5_isPlace l G cI cJ cZ cO cA e aM _ row tot tab goa bes tic txt par sav bwh bpr bse len mat ask hh p0 hq1) (tb_V kw807 kw809 kv34 kw7 kw810) rfl rfl (by decide +kernel) ⟨Nat.le_of_ble_eq_true rfl, Nat.le_of_ble_eq_true rfl⟩ hK hP hD hS hA hE 0 rfl rfl [0, 1, 2, 3, 4, 5, 6, 7, 8] [] rfl rfl rfl 9 ⟨rfl, rfl⟩ (by decide +kernel) (by decide +kernel) rfl rfl hl.1 (Nat.le_of_ble_eq_true rfl) ⟨Nat.zero_le _, Nat.zero_le _⟩ dX5_requested_2 (fun H locs hP hD hS => ?_)
  have hJ3 : ∀ (H : Heap) (locs : List Loc) (ls : Array Slot), f_X5_requested_j31 = some res → va_P G vwCl (wM cI cJ aM row tot tab goa bes tic txt par sav bwh bpr bse len mat ask hh ++ ([] : va_W)) H → va_D A (wM cI cJ aM row tot tab goa bes tic txt par sav bwh bpr bse len mat ask hh ++ ([] : va_W)) → va_S A s.heap H locs → lv_has ls 3 [] → W p l ev ({ frames := 2, cells := 0, slots := 0, locals := 43 } : Room) s m ([.ref (aM 0), .int p0, .int p1] : List Value).toArray below meth c H locs 0 0 (MQ below (qI G (ty5 cI cJ cZ cO cA) A (wM cI cJ aM row tot tab goa bes tic txt par sav bwh bpr bse len mat ask hh ++ ([] : va_W)) res) ([.ref (aM 0), .int p0, .int p1] : List Value).toArray s 0 0 A) (F0 m 31 ls []) := by
    intro H locs ls h hP hD hS hl
    unfold f_X5_requested_j31 at h
    refine lv_ldc (v := (-2000000001)) hx hb hown (hts _ kw638) dX5_requested_31 ?_
    rw [← Option.some.inj h]
    exact kri hx hb hr hlk rfl rfl hP hD hS hK dX5_requested_33
  refine lv_if_eq (tgt := 31) hx hb dX5_requested_5 (by decide) (fun c2 => ?_) (fun c2 => ?_)
  · replace h := (if_pos c2).symm.trans h
    exact hJ3  _ _ _ h hP hD hS (lv_sub hl [] rfl)
  · replace h := (if_neg c2).symm.trans h
    refine lv_iload_n hx hb dX5_requested_8 rfl (lv_at hl 2 rfl) ?_
    obtain ⟨q4, hq4, h⟩ := bd_s h
    refine kSi (n := 1) (As := [.int p1]) (rest := []) hx hb hml hown hts (c_X5_isPart l G cI cJ cZ cO cA e _ p1 hq4) (tb_S kw685 kw686 kw7 kw687) rfl rfl (by decide +kernel) ⟨Nat.le_of_ble_eq_true rfl, Nat.le_of_ble_eq_true rfl⟩ hK hP hD hS hA hE rfl rfl hl.1 (Nat.le_of_ble_eq_true rfl) ⟨Nat.zero_le _, Nat.zero_le _⟩ dX5_requested_9 (fun H locs hP hD hS => ?_)
    refine lv_if_eq (tgt := 31) hx hb dX5_requested_12 (by decide) (fun c5 => ?_) (fun c5 => ?_)
    · replace h := (if_pos c5).symm.trans h
      exact hJ3  _ _ _ h hP hD hS (lv_sub hl [] rfl)
    · replace h := (if_neg c5).symm.trans h
      refine lv_aload_n hx hb dX5_requested_15 rfl (lv_at hl 0 rfl) ?_
      refine va_get (D := G) (ci := 5) (v := .ref (aM 1)) (C := RX5) (T := TX5) (N := 16) hx hb hts uX5 hown hK hP 0 rfl rfl 0 (by decide) (hts _ kw579) (fun _ h9 => h9) rfl dX5_requested_16 ?_
      refine lv_bipush (v := 69) hx hb dX5_requested_19 (by decide) ?_
      refine lv_iconst (v := 3) hx hb dX5_requested_21 (by decide) ?_
      refine lv_iload_n hx hb dX5_requested_22 rfl (lv_at hl 1 rfl) ?_
      refine lv_imul hx hb dX5_requested_23 ?_
      refine lv_iadd hx hb dX5_requested_24 ?_
      refine lv_iload_n hx hb dX5_requested_25 rfl (lv_at hl 2 rfl) ?_
      refine lv_iadd hx hb dX5_requested_26 ?_
      obtain ⟨g6, h⟩ := gd_s h
      refine va_iald hx hb hK hP 1 0 rfl rfl (ib_in g6) dX5_requested_27 ?_
      refine lv_goto (tgt := 33) hx hb dX5_requested_28 (by decide) ?_
      rw [← Option.some.inj h]
      exact kri hx hb hr hlk rfl rfl hP hD hS hK dX5_requested_33

/-! X5_held -/
def f_X5_held (p0 : Int32) : Option (Int32) :=
  if (-4000) ≤ p0 then (if p0 ≤ 4000 then (some p0) else (some 4000)) else (some (-4000))

set_option maxHeartbeats 4000000 in
set_option maxRecDepth 100000 in
theorem c_X5_held (l : Launch) (G : va_G) (cI cJ cZ cO cA : ClassId) (e : Nat × Nat) (sz : Nat) (p0 : Int32) {res : Int32} (hf : f_X5_held p0 = some res) : MetI l yX5_held cX5_held 1 .int ({ frames := 0, cells := 0, slots := 0, locals := 0 } : Room) [.int p0] G (ty5 cI cJ cZ cO cA) e (([] : va_W)) (([] : va_W)) sz res := by
  refine g_body (QQ := fun A => (qI G (ty5 cI cJ cZ cO cA) A (([] : va_W)) res)) (own := RX5) (by decide) rfl (Nat.le_of_ble_eq_true rfl) ?_
  intro p ev s m below meth c A ls hx hb hr hml hown hts hlk hA hP hD hS hK hE hl
  have hl : lv_has ls 1 [(0, .int p0)] := hl
  show W p l ev ({ frames := 0, cells := 0, slots := 0, locals := 0 } : Room) s m ([.int p0] : List Value).toArray below meth c s.heap [] 0 0 (MQ below (qI G (ty5 cI cJ cZ cO cA) A (([] : va_W)) res) ([.int p0] : List Value).toArray s 0 0 A) (F0 m 0 ls [])
  have h := hf
  unfold f_X5_held at h
  refine lv_iload_n hx hb dX5_held_0 rfl (lv_at hl 0 rfl) ?_
  refine lv_sipush (v := (-4000)) hx hb dX5_held_1 (by decide) ?_
  refine lv_icmp_ge (tgt := 13) hx hb dX5_held_4 (by decide) (fun c1 => ?_) (fun c1 => ?_)
  · replace h := (if_pos c1).symm.trans h
    refine lv_iload_n hx hb dX5_held_13 rfl (lv_at hl 0 rfl) ?_
    refine lv_sipush (v := 4000) hx hb dX5_held_14 (by decide) ?_
    refine lv_icmp_le (tgt := 26) hx hb dX5_held_17 (by decide) (fun c2 => ?_) (fun c2 => ?_)
    · replace h := (if_pos c2).symm.trans h
      refine lv_iload_n hx hb dX5_held_26 rfl (lv_at hl 0 rfl) ?_
      rw [← Option.some.inj h]
      exact kri hx hb hr hlk rfl rfl hP hD hS hK dX5_held_27
    · replace h := (if_neg c2).symm.trans h
      refine lv_sipush (v := 4000) hx hb dX5_held_20 (by decide) ?_
      refine lv_goto (tgt := 27) hx hb dX5_held_23 (by decide) ?_
      rw [← Option.some.inj h]
      exact kri hx hb hr hlk rfl rfl hP hD hS hK dX5_held_27
  · replace h := (if_neg c1).symm.trans h
    refine lv_sipush (v := (-4000)) hx hb dX5_held_7 (by decide) ?_
    refine lv_goto (tgt := 27) hx hb dX5_held_10 (by decide) ?_
    rw [← Option.some.inj h]
    exact kri hx hb hr hlk rfl rfl hP hD hS hK dX5_held_27

/-! X5_runs -/
def f_X5_runs_j85 (v4 : Int32) (t0 : Int32) (t1 : Int32) : Option ((Int32 × Int32) ⊕ (Int32)) :=
  some (Sum.inl ((t1 - t0), (v4 + 1)))
def f_X5_runs_b49 (row : Nat → Int32) (v1 : Int32) (v2 : Int32) (z8 : Int32 × Int32) : Option ((Int32 × Int32) ⊕ (Int32)) :=
  gd (ib 0 708) (if (row (0 : Int32).toNatClampNeg) ≤ z8.2 then (some (Sum.inr z8.1)) else (if ((v1 >>> (z8.2 &&& 31)) &&& 1) = 1 then ((f_X5_unitOf row z8.2 v2).bind (fun q13 => f_X5_runs_j85 z8.2 (20 * q13) z8.1)) else (f_X5_runs_j85 z8.2 0 z8.1)))
def f_X5_runs_j44 (row : Nat → Int32) (v1 : Int32) (v2 : Int32) (t0 : Int32) (t1 : Int32) : Option (((Nat → Int32) × Int32) ⊕ ((Nat → Int32))) :=
  (lp (f_X5_runs_b49 row v1 v2) 1000 ((t1 + t0), 0)).bind (fun q8 => gd (ib (105 + v2) 708) (some (Sum.inl ((upd row (105 + v2).toNatClampNeg q8), (v2 + 1)))))
def f_X5_runs_b7 (v1 : Int32) (z2 : (Nat → Int32) × Int32) : Option (((Nat → Int32) × Int32) ⊕ ((Nat → Int32))) :=
  if 3 ≤ z2.2 then (some (Sum.inr z2.1)) else (gd (ib (99 + z2.2) 708) (gd (ib 68 708) (if (z2.1 (68 : Int32).toNatClampNeg) ≤ 0 then (f_X5_runs_j44 z2.1 v1 z2.2 0 (z2.1 (99 + z2.2).toNatClampNeg)) else (gd (ib (69 + z2.2) 708) (f_X5_runs_j44 z2.1 v1 z2.2 (z2.1 (69 + z2.2).toNatClampNeg) (z2.1 (99 + z2.2).toNatClampNeg))))))
def f_X5_runs_j221 (row : Nat → Int32) (v3 : Int32) (t0 : Int32) (t1 : Int32) (t2 : Int32) : Option (((Nat → Int32) × Int32) ⊕ ((Nat → Int32))) :=
  gd (ib t2 708) (some (Sum.inl ((upd row t2.toNatClampNeg (t1 ||| t0)), (v3 + 1))))
def f_X5_runs_j195 (row : Nat → Int32) (v3 : Int32) (t0 : Int32) (t1 : Int32) : Option (((Nat → Int32) × Int32) ⊕ ((Nat → Int32))) :=
  gd (ib t1 708) (gd (ib 116 708) ((f_X5_of (upd row t1.toNatClampNeg t0) v3 6).bind (fun q32 => if q32 = 0 then (f_X5_runs_j221 (upd row t1.toNatClampNeg t0) v3 (1 <<< (v3 &&& 31)) ((upd row t1.toNatClampNeg t0) (116 : Int32).toNatClampNeg) 116) else (f_X5_runs_j221 (upd row t1.toNatClampNeg t0) v3 0 ((upd row t1.toNatClampNeg t0) (116 : Int32).toNatClampNeg) 116))))
def f_X5_runs_b164 (bes : Nat → Int64) (bwh : Int64) (v2 : Int32) (z25 : (Nat → Int32) × Int32) : Option (((Nat → Int32) × Int32) ⊕ ((Nat → Int32))) :=
  gd (ib 0 708) (if (z25.1 (0 : Int32).toNatClampNeg) ≤ z25.2 then (some (Sum.inr z25.1)) else (if v2 = 0 then (f_X5_runs_j195 z25.1 z25.2 0 (108 + z25.2)) else ((f_X5_pulseOf z25.1 bes bwh z25.2).bind (fun q36 => f_X5_runs_j195 z25.1 z25.2 q36 (108 + z25.2)))))
def f_X5_runs_j305 (v4 : Int32) (v6 : Int32) (t0 : Int32) (t1 : Int32) : Option ((Int32 × Int32 × Int32) ⊕ (Int32 × Int32)) :=
  some (Sum.inl (v4, (t1 + t0), (v6 + 1)))
def f_X5_runs_b245 (row : Nat → Int32) (v1 : Int32) (v3 : Int32) (z39 : Int32 × Int32 × Int32) : Option ((Int32 × Int32 × Int32) ⊕ (Int32 × Int32)) :=
  gd (ib 0 708) (if (row (0 : Int32).toNatClampNeg) ≤ z39.2.2 then (some (Sum.inr (z39.1, z39.2.1))) else (gd (ib (108 + z39.2.2) 708) ((f_X5_unitOf row z39.2.2 v3).bind (fun q43 => if ((v1 >>> (z39.2.2 &&& 31)) &&& 1) = 1 then ((f_X5_unitOf row z39.2.2 v3).bind (fun q46 => f_X5_runs_j305 (z39.1 + ((row (108 + z39.2.2).toNatClampNeg) * q43)) z39.2.2 (20 * q46) z39.2.1)) else (f_X5_runs_j305 (z39.1 + ((row (108 + z39.2.2).toNatClampNeg) * q43)) z39.2.2 0 z39.2.1)))))
def f_X5_runs_b231 (v1 : Int32) (z37 : (Nat → Int32) × (Nat → Int64) × Int32) : Option (((Nat → Int32) × (Nat → Int64) × Int32) ⊕ ((Nat → Int32) × (Nat → Int64))) :=
  if 3 ≤ z37.2.2 then (some (Sum.inr (z37.1, z37.2.1))) else ((lp (f_X5_runs_b245 z37.1 v1 z37.2.2) 1000 (0, 0, 0)).bind (fun q39 => gd (ib (102 + z37.2.2) 708) (gd (ib (105 + z37.2.2) 708) ((f_X5_held (((upd z37.1 (102 + z37.2.2).toNatClampNeg (q39.1 + q39.2)) (105 + z37.2.2).toNatClampNeg) - q39.1)).bind (fun q49 => gd (ib (99 + z37.2.2) 708) (gd (ib z37.2.2 18) (gd (ib z37.2.2 18) (some (Sum.inl ((upd (upd z37.1 (102 + z37.2.2).toNatClampNeg (q39.1 + q39.2)) (99 + z37.2.2).toNatClampNeg q49), (vp_updL z37.2.1 z37.2.2.toNatClampNeg ((z37.2.1 z37.2.2.toNatClampNeg) + ((q39.1 + q39.2).toInt64))), (z37.2.2 + 1)))))))))))
def f_X5_runs_j451 (row : Nat → Int32) (v3 : Int32) (t0 : Int32) (t1 : Int32) : Option (((Nat → Int32) × Int32) ⊕ ((Nat → Int32))) :=
  gd (ib t1 708) (some (Sum.inl ((upd row t1.toNatClampNeg t0), (v3 + 1))))
def f_X5_runs_j408 (row : Nat → Int32) (v3 : Int32) (t0 : Int32) : Option (((Nat → Int32) × Int32) ⊕ ((Nat → Int32))) :=
  (f_X5_fuelOf row v3).bind (fun q58 => (f_X5_of row v3 3).bind (fun q59 => (f_X5_of row v3 4).bind (fun q60 => if 0 ≤ (q58 - (t0 * q59)) then (f_X5_runs_j451 row v3 (q58 - (t0 * q59)) (57 + q60)) else (f_X5_runs_j451 row v3 0 (57 + q60)))))
def f_X5_runs_b375 (v1 : Int32) (z53 : (Nat → Int32) × Int32) : Option (((Nat → Int32) × Int32) ⊕ ((Nat → Int32))) :=
  gd (ib 0 708) (if (z53.1 (0 : Int32).toNatClampNeg) ≤ z53.2 then (some (Sum.inr z53.1)) else (if ((v1 >>> (z53.2 &&& 31)) &&& 1) = 1 then (f_X5_runs_j408 z53.1 z53.2 20) else (gd (ib (108 + z53.2) 708) (f_X5_runs_j408 z53.1 z53.2 (z53.1 (108 + z53.2).toNatClampNeg)))))
def f_X5_runs_j124 (row : Nat → Int32) (tot : Nat → Int64) (tab : Nat → Int64) (goa : Nat → Int64) (bes : Nat → Int64) (tic : Nat → Int64) (bwh : Int64) (bpr : Int64) (bse : Int32) (v1 : Int32) : Option (Int32 × (Nat → Int32) × (Nat → Int64) × (Nat → Int64) × (Nat → Int64) × (Nat → Int64) × (Nat → Int64) × Int64 × Int64 × Int32) :=
  gd (ib 105 708) (gd (ib 106 708) (gd (ib 107 708) ((f_X5_aims goa (row (105 : Int32).toNatClampNeg) (row (106 : Int32).toNatClampNeg) (row (107 : Int32).toNatClampNeg)).bind (fun q22 => (f_X5_finds row q22 tab bes tic bwh bpr bse).bind (fun q23 => gd (ib 116 708) ((lp (f_X5_runs_b164 q23.2.2.1 q23.2.2.2.2.1 q23.1) 1000 ((upd row (116 : Int32).toNatClampNeg 0), 0)).bind (fun q25 => (lp (f_X5_runs_b231 v1) 1000 (q25, tot, 0)).bind (fun q37 => (lp (f_X5_runs_b375 v1) 1000 (q37.1, 0)).bind (fun q53 => gd (ib 117 708) (gd (ib 117 708) (gd (zb q23.1) (some (q23.1, (upd q53 (117 : Int32).toNatClampNeg ((q53 (117 : Int32).toNatClampNeg) + 1)), q37.2, q23.2.1, q22, q23.2.2.1, q23.2.2.2.1, q23.2.2.2.2.1, q23.2.2.2.2.2.1, q23.2.2.2.2.2.2)))))))))))))
def f_X5_runs (row : Nat → Int32) (tot : Nat → Int64) (tab : Nat → Int64) (goa : Nat → Int64) (bes : Nat → Int64) (tic : Nat → Int64) (bwh : Int64) (bpr : Int64) (bse : Int32) : Option (Int32 × (Nat → Int32) × (Nat → Int64) × (Nat → Int64) × (Nat → Int64) × (Nat → Int64) × (Nat → Int64) × Int64 × Int64 × Int32) :=
  (f_X5_running row).bind (fun q1 => (lp (f_X5_runs_b7 q1) 1000 (row, 0)).bind (fun q2 => gd (ib 68 708) (if (q2 (68 : Int32).toNatClampNeg) ≤ 0 then (f_X5_runs_j124 q2 tot tab goa bes tic bwh bpr bse q1) else ((f_X5_takes q2 0).bind (fun q68 => f_X5_runs_j124 q68 tot tab goa bes tic bwh bpr bse q1)))))

set_option maxHeartbeats 4000000 in
set_option maxRecDepth 100000 in
theorem c_X5_runs (l : Launch) (G : va_G) (cI cJ cZ cO cA : ClassId) (e : Nat × Nat) (aM : Nat → Nat) (sz : Nat) (row : Nat → Int32) (tot : Nat → Int64) (tab : Nat → Int64) (goa : Nat → Int64) (bes : Nat → Int64) (tic : Nat → Int64) (txt : Nat → Int32) (par : Nat → Int32) (sav : Int32) (bwh : Int64) (bpr : Int64) (bse : Int32) (len : Int32) (mat : Int32) (ask : Int32) (hh : Int64) {res : Int32 × (Nat → Int32) × (Nat → Int64) × (Nat → Int64) × (Nat → Int64) × (Nat → Int64) × (Nat → Int64) × Int64 × Int64 × Int32} (hf : f_X5_runs row tot tab goa bes tic bwh bpr bse = some res) : MetI l yX5_runs cX5_runs 7 .boolean ({ frames := 7, cells := 0, slots := 0, locals := 166 } : Room) [.ref (aM 0)] G (ty5 cI cJ cZ cO cA) e (wM cI cJ aM row tot tab goa bes tic txt par sav bwh bpr bse len mat ask hh ++ ([] : va_W)) (wM cI cJ aM res.2.1 res.2.2.1 res.2.2.2.1 res.2.2.2.2.1 res.2.2.2.2.2.1 res.2.2.2.2.2.2.1 txt par sav res.2.2.2.2.2.2.2.1 res.2.2.2.2.2.2.2.2.1 res.2.2.2.2.2.2.2.2.2 len mat ask hh ++ ([] : va_W)) sz res.1 := by
  refine g_body (QQ := fun A => (qI G (ty5 cI cJ cZ cO cA) A (wM cI cJ aM res.2.1 res.2.2.1 res.2.2.2.1 res.2.2.2.2.1 res.2.2.2.2.2.1 res.2.2.2.2.2.2.1 txt par sav res.2.2.2.2.2.2.2.1 res.2.2.2.2.2.2.2.2.1 res.2.2.2.2.2.2.2.2.2 len mat ask hh ++ ([] : va_W)) res.1)) (own := RX5) (by decide) rfl (Nat.le_of_ble_eq_true rfl) ?_
  intro p ev s m below meth c A ls hx hb hr hml hown hts hlk hA hP hD hS hK hE hl
  have hl : lv_has ls 7 [(0, .ref (aM 0))] := hl
  show W p l ev ({ frames := 7, cells := 0, slots := 0, locals := 166 } : Room) s m ([.ref (aM 0)] : List Value).toArray below meth c s.heap [] 0 0 (MQ below (qI G (ty5 cI cJ cZ cO cA) A (wM cI cJ aM res.2.1 res.2.2.1 res.2.2.2.1 res.2.2.2.2.1 res.2.2.2.2.2.1 res.2.2.2.2.2.2.1 txt par sav res.2.2.2.2.2.2.2.1 res.2.2.2.2.2.2.2.2.1 res.2.2.2.2.2.2.2.2.2 len mat ask hh ++ ([] : va_W)) res.1) ([.ref (aM 0)] : List Value).toArray s 0 0 A) (F0 m 0 ls [])
  have h := hf
  unfold f_X5_runs at h
  refine lv_aload_n hx hb dX5_runs_0 rfl (lv_at hl 0 rfl) ?_
  obtain ⟨q1, hq1, h⟩ := bd_s h
  refine kVi (n := 0) (C := RX5) (ws' := wM cI cJ aM row tot tab goa bes tic txt par sav bwh bpr bse len mat ask hh ++ ([] : va_W)) (As := []) (rest := []) hx hb hml hown hts (c_X5_running l G cI cJ cZ cO cA e aM _ row tot tab goa bes tic txt par sav bwh bpr bse len mat ask hh hq1) (tb_V kw736 kw738 kv26 kw7 kw739) rfl rfl (by decide +kernel) ⟨Nat.le_of_ble_eq_true rfl, Nat.le_of_ble_eq_true rfl⟩ hK hP hD hS hA hE 0 rfl rfl [0, 1, 2, 3, 4, 5, 6, 7, 8] [] rfl rfl rfl 9 ⟨rfl, rfl⟩ (by decide +kernel) (by decide +kernel) rfl rfl hl.1 (Nat.le_of_ble_eq_true rfl) ⟨Nat.zero_le _, Nat.zero_le _⟩ dX5_runs_1 (fun H locs hP hD hS => ?_)
  refine lv_istore_n (lv' := [(1, .int q1), (0, .ref (aM 0))]) hx hb dX5_runs_4 rfl hl (by decide) rfl (fun ls hl => ?_)
  refine lv_iconst (v := 0) hx hb dX5_runs_5 (by decide) ?_
  refine lv_istore_n (lv' := [(2, .int 0), (1, .int q1), (0, .ref (aM 0))]) hx hb dX5_runs_6 rfl hl (by decide) rfl (fun ls hl => ?_)
  obtain ⟨q2, hq2, h⟩ := bd_s h
  have hX2_0 : ∀ (x2 : (Nat → Int32)) (H : Heap) (locs : List Loc) (ls : Array Slot), x2 = q2 → va_P G vwCl (wM cI cJ aM x2 tot tab goa bes tic txt par sav bwh bpr bse len mat ask hh ++ ([] : va_W)) H → va_D A (wM cI cJ aM x2 tot tab goa bes tic txt par sav bwh bpr bse len mat ask hh ++ ([] : va_W)) → va_S A s.heap H locs → lv_has ls 7 [(0, .ref (aM 0)), (1, .int q1)] → W p l ev ({ frames := 7, cells := 0, slots := 0, locals := 166 } : Room) s m ([.ref (aM 0)] : List Value).toArray below meth c H locs 0 0 (MQ below (qI G (ty5 cI cJ cZ cO cA) A (wM cI cJ aM res.2.1 res.2.2.1 res.2.2.2.1 res.2.2.2.2.1 res.2.2.2.2.2.1 res.2.2.2.2.2.2.1 txt par sav res.2.2.2.2.2.2.2.1 res.2.2.2.2.2.2.2.2.1 res.2.2.2.2.2.2.2.2.2 len mat ask hh ++ ([] : va_W)) res.1) ([.ref (aM 0)] : List Value).toArray s 0 0 A) (F0 m 109 ls []) := by
    intro x2 H locs ls e2 hP hD hS hl
    replace e2 := e2.symm
    subst e2
    refine lv_aload_n hx hb dX5_runs_109 rfl (lv_at hl 0 rfl) ?_
    refine va_get (D := G) (ci := 5) (v := .ref (aM 1)) (C := RX5) (T := TX5) (N := 16) hx hb hts uX5 hown hK hP 0 rfl rfl 0 (by decide) (hts _ kw579) (fun _ h9 => h9) rfl dX5_runs_110 ?_
    refine lv_bipush (v := 68) hx hb dX5_runs_113 (by decide) ?_
    obtain ⟨g16, h⟩ := gd_s h
    refine va_iald hx hb hK hP 1 0 rfl rfl (ib_in g16) dX5_runs_115 ?_
    have hJ18 : ∀ (row_18 : Nat → Int32) (tot_18 : Nat → Int64) (tab_18 : Nat → Int64) (goa_18 : Nat → Int64) (bes_18 : Nat → Int64) (tic_18 : Nat → Int64) (bwh_18 : Int64) (bpr_18 : Int64) (bse_18 : Int32) (v1_18 : Int32) (H : Heap) (locs : List Loc) (ls : Array Slot), f_X5_runs_j124 row_18 tot_18 tab_18 goa_18 bes_18 tic_18 bwh_18 bpr_18 bse_18 v1_18 = some res → va_P G vwCl (wM cI cJ aM row_18 tot_18 tab_18 goa_18 bes_18 tic_18 txt par sav bwh_18 bpr_18 bse_18 len mat ask hh ++ ([] : va_W)) H → va_D A (wM cI cJ aM row_18 tot_18 tab_18 goa_18 bes_18 tic_18 txt par sav bwh_18 bpr_18 bse_18 len mat ask hh ++ ([] : va_W)) → va_S A s.heap H locs → lv_has ls 7 [(0, .ref (aM 0)), (1, .int v1_18)] → W p l ev ({ frames := 7, cells := 0, slots := 0, locals := 166 } : Room) s m ([.ref (aM 0)] : List Value).toArray below meth c H locs 0 0 (MQ below (qI G (ty5 cI cJ cZ cO cA) A (wM cI cJ aM res.2.1 res.2.2.1 res.2.2.2.1 res.2.2.2.2.1 res.2.2.2.2.2.1 res.2.2.2.2.2.2.1 txt par sav res.2.2.2.2.2.2.2.1 res.2.2.2.2.2.2.2.2.1 res.2.2.2.2.2.2.2.2.2 len mat ask hh ++ ([] : va_W)) res.1) ([.ref (aM 0)] : List Value).toArray s 0 0 A) (F0 m 124 ls []) := by
      intro row_18 tot_18 tab_18 goa_18 bes_18 tic_18 bwh_18 bpr_18 bse_18 v1_18 H locs ls h hP hD hS hl
      unfold f_X5_runs_j124 at h
      refine lv_aload_n hx hb dX5_runs_124 rfl (lv_at hl 0 rfl) ?_
      refine lv_aload_n hx hb dX5_runs_125 rfl (lv_at hl 0 rfl) ?_
      refine va_get (D := G) (ci := 5) (v := .ref (aM 1)) (C := RX5) (T := TX5) (N := 16) hx hb hts uX5 hown hK hP 0 rfl rfl 0 (by decide) (hts _ kw579) (fun _ h9 => h9) rfl dX5_runs_126 ?_
      refine lv_bipush (v := 105) hx hb dX5_runs_129 (by decide) ?_
      obtain ⟨g19, h⟩ := gd_s h
      refine va_iald hx hb hK hP 1 0 rfl rfl (ib_in g19) dX5_runs_131 ?_
      refine lv_aload_n hx hb dX5_runs_132 rfl (lv_at hl 0 rfl) ?_
      refine va_get (D := G) (ci := 5) (v := .ref (aM 1)) (C := RX5) (T := TX5) (N := 16) hx hb hts uX5 hown hK hP 0 rfl rfl 0 (by decide) (hts _ kw579) (fun _ h9 => h9) rfl dX5_runs_133 ?_
      refine lv_bipush (v := 106) hx hb dX5_runs_136 (by decide) ?_
      obtain ⟨g20, h⟩ := gd_s h
      refine va_iald hx hb hK hP 1 0 rfl rfl (ib_in g20) dX5_runs_138 ?_
      refine lv_aload_n hx hb dX5_runs_139 rfl (lv_at hl 0 rfl) ?_
      refine va_get (D := G) (ci := 5) (v := .ref (aM 1)) (C := RX5) (T := TX5) (N := 16) hx hb hts uX5 hown hK hP 0 rfl rfl 0 (by decide) (hts _ kw579) (fun _ h9 => h9) rfl dX5_runs_140 ?_
      refine lv_bipush (v := 107) hx hb dX5_runs_143 (by decide) ?_
      obtain ⟨g21, h⟩ := gd_s h
      refine va_iald hx hb hK hP 1 0 rfl rfl (ib_in g21) dX5_runs_145 ?_
      obtain ⟨q22, hq22, h⟩ := bd_s h
      refine kVv (n := 3) (C := RX5) (ws' := wM cI cJ aM row_18 tot_18 tab_18 q22 bes_18 tic_18 txt par sav bwh_18 bpr_18 bse_18 len mat ask hh ++ ([] : va_W)) (As := [.int (row_18 (105 : Int32).toNatClampNeg), .int (row_18 (106 : Int32).toNatClampNeg), .int (row_18 (107 : Int32).toNatClampNeg)]) (rest := []) hx hb hml hown hts (c_X5_aims l G cI cJ cZ cO cA e aM _ row_18 tot_18 tab_18 goa_18 bes_18 tic_18 txt par sav bwh_18 bpr_18 bse_18 len mat ask hh (row_18 (105 : Int32).toNatClampNeg) (row_18 (106 : Int32).toNatClampNeg) (row_18 (107 : Int32).toNatClampNeg) hq22) (tb_V kw749 kw751 kv27 kw7 kw752) rfl rfl (by decide +kernel) ⟨Nat.le_of_ble_eq_true rfl, Nat.le_of_ble_eq_true rfl⟩ hK hP hD hS hA hE 0 rfl rfl [0, 1, 2, 3, 4, 5, 6, 7, 8] [] rfl rfl rfl 9 ⟨rfl, rfl⟩ (by decide +kernel) (by decide +kernel) rfl rfl hl.1 (Nat.le_of_ble_eq_true rfl) ⟨Nat.zero_le _, Nat.zero_le _⟩ dX5_runs_146 (fun H locs hP hD hS => ?_)
      refine lv_aload_n hx hb dX5_runs_149 rfl (lv_at hl 0 rfl) ?_
      obtain ⟨q23, hq23, h⟩ := bd_s h
      refine kVi (n := 0) (C := RX5) (ws' := wM cI cJ aM row_18 tot_18 q23.2.1 q22 q23.2.2.1 q23.2.2.2.1 txt par sav q23.2.2.2.2.1 q23.2.2.2.2.2.1 q23.2.2.2.2.2.2 len mat ask hh ++ ([] : va_W)) (As := []) (rest := []) hx hb hml hown hts (c_X5_finds l G cI cJ cZ cO cA e aM _ row_18 tot_18 tab_18 q22 bes_18 tic_18 txt par sav bwh_18 bpr_18 bse_18 len mat ask hh hq23) (tb_V kw753 kw755 kv28 kw7 kw756) rfl rfl (by decide +kernel) ⟨Nat.le_of_ble_eq_true rfl, Nat.le_of_ble_eq_true rfl⟩ hK hP hD hS hA hE 0 rfl rfl [0, 1, 2, 3, 4, 5, 6, 7, 8] [] rfl rfl rfl 9 ⟨rfl, rfl⟩ (by decide +kernel) (by decide +kernel) rfl rfl hl.1 (Nat.le_of_ble_eq_true rfl) ⟨Nat.zero_le _, Nat.zero_le _⟩ dX5_runs_150 (fun H locs hP hD hS => ?_)
      refine lv_istore_n (lv' := [(2, .int q23.1), (0, .ref (aM 0)), (1, .int v1_18)]) hx hb dX5_runs_153 rfl hl (by decide) rfl (fun ls hl => ?_)
      refine lv_aload_n hx hb dX5_runs_154 rfl (lv_at hl 1 rfl) ?_
      refine va_get (D := G) (ci := 5) (v := .ref (aM 1)) (C := RX5) (T := TX5) (N := 16) hx hb hts uX5 hown hK hP 0 rfl rfl 0 (by decide) (hts _ kw579) (fun _ h9 => h9) rfl dX5_runs_155 ?_
      refine lv_bipush (v := 116) hx hb dX5_runs_158 (by decide) ?_
      refine lv_iconst (v := 0) hx hb dX5_runs_160 (by decide) ?_
      obtain ⟨g24, h⟩ := gd_s h
      refine va_iast hx hb hK hP hD hS 1 0 rfl rfl (ib_in g24) dX5_runs_161 (fun H locs hP hD hS => ?_)
      have hP : va_P G vwCl (wM cI cJ aM (upd row_18 (116 : Int32).toNatClampNeg 0) tot_18 q23.2.1 q22 q23.2.2.1 q23.2.2.2.1 txt par sav q23.2.2.2.2.1 q23.2.2.2.2.2.1 q23.2.2.2.2.2.2 len mat ask hh ++ ([] : va_W)) H := hP
      have hD : va_D A (wM cI cJ aM (upd row_18 (116 : Int32).toNatClampNeg 0) tot_18 q23.2.1 q22 q23.2.2.1 q23.2.2.2.1 txt par sav q23.2.2.2.2.1 q23.2.2.2.2.2.1 q23.2.2.2.2.2.2 len mat ask hh ++ ([] : va_W)) := hD
      refine lv_iconst (v := 0) hx hb dX5_runs_162 (by decide) ?_
      refine lv_istore_n (lv' := [(3, .int 0), (2, .int q23.1), (0, .ref (aM 0)), (1, .int v1_18)]) hx hb dX5_runs_163 rfl hl (by decide) rfl (fun ls hl => ?_)
      obtain ⟨q25, hq25, h⟩ := bd_s h
      have hX25_0 : ∀ (x25 : (Nat → Int32)) (H : Heap) (locs : List Loc) (ls : Array Slot), x25 = q25 → va_P G vwCl (wM cI cJ aM x25 tot_18 q23.2.1 q22 q23.2.2.1 q23.2.2.2.1 txt par sav q23.2.2.2.2.1 q23.2.2.2.2.2.1 q23.2.2.2.2.2.2 len mat ask hh ++ ([] : va_W)) H → va_D A (wM cI cJ aM x25 tot_18 q23.2.1 q22 q23.2.2.1 q23.2.2.2.1 txt par sav q23.2.2.2.2.1 q23.2.2.2.2.2.1 q23.2.2.2.2.2.2 len mat ask hh ++ ([] : va_W)) → va_S A s.heap H locs → lv_has ls 7 [(0, .ref (aM 0)), (1, .int v1_18), (2, .int q23.1)] → W p l ev ({ frames := 7, cells := 0, slots := 0, locals := 166 } : Room) s m ([.ref (aM 0)] : List Value).toArray below meth c H locs 0 0 (MQ below (qI G (ty5 cI cJ cZ cO cA) A (wM cI cJ aM res.2.1 res.2.2.1 res.2.2.2.1 res.2.2.2.2.1 res.2.2.2.2.2.1 res.2.2.2.2.2.2.1 txt par sav res.2.2.2.2.2.2.2.1 res.2.2.2.2.2.2.2.2.1 res.2.2.2.2.2.2.2.2.2 len mat ask hh ++ ([] : va_W)) res.1) ([.ref (aM 0)] : List Value).toArray s 0 0 A) (F0 m 229 ls []) := by
        intro x25 H locs ls e25 hP hD hS hl
        replace e25 := e25.symm
        subst e25
        refine lv_iconst (v := 0) hx hb dX5_runs_229 (by decide) ?_
        refine lv_istore_n (lv' := [(3, .int 0), (0, .ref (aM 0)), (1, .int v1_18), (2, .int q23.1)]) hx hb dX5_runs_230 rfl hl (by decide) rfl (fun ls hl => ?_)
        obtain ⟨q37, hq37, h⟩ := bd_s h
        have hX37_0 : ∀ (x37 : (Nat → Int32) × (Nat → Int64)) (H : Heap) (locs : List Loc) (ls : Array Slot), x37 = q37 → va_P G vwCl (wM cI cJ aM x37.1 x37.2 q23.2.1 q22 q23.2.2.1 q23.2.2.2.1 txt par sav q23.2.2.2.2.1 q23.2.2.2.2.2.1 q23.2.2.2.2.2.2 len mat ask hh ++ ([] : va_W)) H → va_D A (wM cI cJ aM x37.1 x37.2 q23.2.1 q22 q23.2.2.1 q23.2.2.2.1 txt par sav q23.2.2.2.2.1 q23.2.2.2.2.2.1 q23.2.2.2.2.2.2 len mat ask hh ++ ([] : va_W)) → va_S A s.heap H locs → lv_has ls 7 [(0, .ref (aM 0)), (1, .int v1_18), (2, .int q23.1)] → W p l ev ({ frames := 7, cells := 0, slots := 0, locals := 166 } : Room) s m ([.ref (aM 0)] : List Value).toArray below meth c H locs 0 0 (MQ below (qI G (ty5 cI cJ cZ cO cA) A (wM cI cJ aM res.2.1 res.2.2.1 res.2.2.2.1 res.2.2.2.2.1 res.2.2.2.2.2.1 res.2.2.2.2.2.2.1 txt par sav res.2.2.2.2.2.2.2.1 res.2.2.2.2.2.2.2.2.1 res.2.2.2.2.2.2.2.2.2 len mat ask hh ++ ([] : va_W)) res.1) ([.ref (aM 0)] : List Value).toArray s 0 0 A) (F0 m 373 ls []) := by
          intro x37 H locs ls e37 hP hD hS hl
          replace e37 := e37.symm
          subst e37
          refine lv_iconst (v := 0) hx hb dX5_runs_373 (by decide) ?_
          refine lv_istore_n (lv' := [(3, .int 0), (0, .ref (aM 0)), (1, .int v1_18), (2, .int q23.1)]) hx hb dX5_runs_374 rfl hl (by decide) rfl (fun ls hl => ?_)
          obtain ⟨q53, hq53, h⟩ := bd_s h
          have hX53_0 : ∀ (x53 : (Nat → Int32)) (H : Heap) (locs : List Loc) (ls : Array Slot), x53 = q53 → va_P G vwCl (wM cI cJ aM x53 q37.2 q23.2.1 q22 q23.2.2.1 q23.2.2.2.1 txt par sav q23.2.2.2.2.1 q23.2.2.2.2.2.1 q23.2.2.2.2.2.2 len mat ask hh ++ ([] : va_W)) H → va_D A (wM cI cJ aM x53 q37.2 q23.2.1 q22 q23.2.2.1 q23.2.2.2.1 txt par sav q23.2.2.2.2.1 q23.2.2.2.2.2.1 q23.2.2.2.2.2.2 len mat ask hh ++ ([] : va_W)) → va_S A s.heap H locs → lv_has ls 7 [(0, .ref (aM 0)), (2, .int q23.1)] → W p l ev ({ frames := 7, cells := 0, slots := 0, locals := 166 } : Room) s m ([.ref (aM 0)] : List Value).toArray below meth c H locs 0 0 (MQ below (qI G (ty5 cI cJ cZ cO cA) A (wM cI cJ aM res.2.1 res.2.2.1 res.2.2.2.1 res.2.2.2.2.1 res.2.2.2.2.2.1 res.2.2.2.2.2.2.1 txt par sav res.2.2.2.2.2.2.2.1 res.2.2.2.2.2.2.2.2.1 res.2.2.2.2.2.2.2.2.2 len mat ask hh ++ ([] : va_W)) res.1) ([.ref (aM 0)] : List Value).toArray s 0 0 A) (F0 m 458 ls []) := by
            intro x53 H locs ls e53 hP hD hS hl
            replace e53 := e53.symm
            subst e53
            refine lv_aload_n hx hb dX5_runs_458 rfl (lv_at hl 0 rfl) ?_
            refine va_get (D := G) (ci := 5) (v := .ref (aM 1)) (C := RX5) (T := TX5) (N := 16) hx hb hts uX5 hown hK hP 0 rfl rfl 0 (by decide) (hts _ kw579) (fun _ h9 => h9) rfl dX5_runs_459 ?_
            refine lv_bipush (v := 117) hx hb dX5_runs_462 (by decide) ?_
            refine lv_dup2_11 hx hb dX5_runs_464 rfl rfl ?_
            obtain ⟨g65, h⟩ := gd_s h
            refine va_iald hx hb hK hP 1 0 rfl rfl (ib_in g65) dX5_runs_465 ?_
            refine lv_iconst (v := 1) hx hb dX5_runs_466 (by decide) ?_
            refine lv_iadd hx hb dX5_runs_467 ?_
            obtain ⟨g66, h⟩ := gd_s h
            refine va_iast hx hb hK hP hD hS 1 0 rfl rfl (ib_in g66) dX5_runs_468 (fun H locs hP hD hS => ?_)
            have hP : va_P G vwCl (wM cI cJ aM (upd q53 (117 : Int32).toNatClampNeg ((q53 (117 : Int32).toNatClampNeg) + 1)) q37.2 q23.2.1 q22 q23.2.2.1 q23.2.2.2.1 txt par sav q23.2.2.2.2.1 q23.2.2.2.2.2.1 q23.2.2.2.2.2.2 len mat ask hh ++ ([] : va_W)) H := hP
            have hD : va_D A (wM cI cJ aM (upd q53 (117 : Int32).toNatClampNeg ((q53 (117 : Int32).toNatClampNeg) + 1)) q37.2 q23.2.1 q22 q23.2.2.1 q23.2.2.2.1 txt par sav q23.2.2.2.2.1 q23.2.2.2.2.2.1 q23.2.2.2.2.2.2 len mat ask hh ++ ([] : va_W)) := hD
            refine lv_iload_n hx hb dX5_runs_469 rfl (lv_at hl 1 rfl) ?_
            obtain ⟨g67, h⟩ := gd_s h
            rw [← Option.some.inj h]
            exact kri hx hb hr hlk (zb_s g67) rfl hP hD hS hK dX5_runs_470
          have hL53 : ∀ (n : Nat) (z53 : (Nat → Int32) × Int32) (H : Heap) (locs : List Loc) (ls : Array Slot), lp (f_X5_runs_b375 v1_18) n z53 = some q53 → va_P G vwCl (wM cI cJ aM z53.1 q37.2 q23.2.1 q22 q23.2.2.1 q23.2.2.2.1 txt par sav q23.2.2.2.2.1 q23.2.2.2.2.2.1 q23.2.2.2.2.2.2 len mat ask hh ++ ([] : va_W)) H → va_D A (wM cI cJ aM z53.1 q37.2 q23.2.1 q22 q23.2.2.1 q23.2.2.2.1 txt par sav q23.2.2.2.2.1 q23.2.2.2.2.2.1 q23.2.2.2.2.2.2 len mat ask hh ++ ([] : va_W)) → va_S A s.heap H locs → lv_has ls 7 [(0, .ref (aM 0)), (1, .int v1_18), (2, .int q23.1), (3, .int z53.2)] → W p l ev ({ frames := 7, cells := 0, slots := 0, locals := 166 } : Room) s m ([.ref (aM 0)] : List Value).toArray below meth c H locs 0 0 (MQ below (qI G (ty5 cI cJ cZ cO cA) A (wM cI cJ aM res.2.1 res.2.2.1 res.2.2.2.1 res.2.2.2.2.1 res.2.2.2.2.2.1 res.2.2.2.2.2.2.1 txt par sav res.2.2.2.2.2.2.2.1 res.2.2.2.2.2.2.2.2.1 res.2.2.2.2.2.2.2.2.2 len mat ask hh ++ ([] : va_W)) res.1) ([.ref (aM 0)] : List Value).toArray s 0 0 A) (F0 m 375 ls []) := by
            intro n
            induction n with
            | zero => intro z53 H locs ls h; cases h
            | succ n ih53 =>
              intro z53 H locs ls h hP hD hS hl
              obtain ⟨o53, h, h53⟩ := lp_s h
              unfold f_X5_runs_b375 at h
              refine lv_iload_n hx hb dX5_runs_375 rfl (lv_at hl 3 rfl) ?_
              refine lv_aload_n hx hb dX5_runs_376 rfl (lv_at hl 0 rfl) ?_
              refine va_get (D := G) (ci := 5) (v := .ref (aM 1)) (C := RX5) (T := TX5) (N := 16) hx hb hts uX5 hown hK hP 0 rfl rfl 0 (by decide) (hts _ kw579) (fun _ h9 => h9) rfl dX5_runs_377 ?_
              refine lv_iconst (v := 0) hx hb dX5_runs_380 (by decide) ?_
              obtain ⟨g54, h⟩ := gd_s h
              refine va_iald hx hb hK hP 1 0 rfl rfl (ib_in g54) dX5_runs_381 ?_
              refine lv_icmp_ge (tgt := 458) hx hb dX5_runs_382 (by decide) (fun c55 => ?_) (fun c55 => ?_)
              · replace h := (if_pos c55).symm.trans h
                rw [← Option.some.inj h] at h53
                exact hX53_0 z53.1 _ _ _ (lp_x h53) hP hD hS (lv_sub hl [0, 2] rfl)
              · replace h := (if_neg c55).symm.trans h
                refine lv_iload_n hx hb dX5_runs_385 rfl (lv_at hl 1 rfl) ?_
                refine lv_iload_n hx hb dX5_runs_386 rfl (lv_at hl 3 rfl) ?_
                refine lv_ishr hx hb dX5_runs_387 ?_
                refine lv_iconst (v := 1) hx hb dX5_runs_388 (by decide) ?_
                refine lv_iand hx hb dX5_runs_389 ?_
                refine lv_iconst (v := 1) hx hb dX5_runs_390 (by decide) ?_
                have hJ57 : ∀ (row_57 : Nat → Int32) (v3_57 : Int32) (t0_57 : Int32) (H : Heap) (locs : List Loc) (ls : Array Slot), f_X5_runs_j408 row_57 v3_57 t0_57 = some o53 → va_P G vwCl (wM cI cJ aM row_57 q37.2 q23.2.1 q22 q23.2.2.1 q23.2.2.2.1 txt par sav q23.2.2.2.2.1 q23.2.2.2.2.2.1 q23.2.2.2.2.2.2 len mat ask hh ++ ([] : va_W)) H → va_D A (wM cI cJ aM row_57 q37.2 q23.2.1 q22 q23.2.2.1 q23.2.2.2.1 txt par sav q23.2.2.2.2.1 q23.2.2.2.2.2.1 q23.2.2.2.2.2.2 len mat ask hh ++ ([] : va_W)) → va_S A s.heap H locs → lv_has ls 7 [(0, .ref (aM 0)), (1, .int v1_18), (2, .int q23.1), (3, .int v3_57)] → W p l ev ({ frames := 7, cells := 0, slots := 0, locals := 166 } : Room) s m ([.ref (aM 0)] : List Value).toArray below meth c H locs 0 0 (MQ below (qI G (ty5 cI cJ cZ cO cA) A (wM cI cJ aM res.2.1 res.2.2.1 res.2.2.2.1 res.2.2.2.2.1 res.2.2.2.2.2.1 res.2.2.2.2.2.2.1 txt par sav res.2.2.2.2.2.2.2.1 res.2.2.2.2.2.2.2.2.1 res.2.2.2.2.2.2.2.2.2 len mat ask hh ++ ([] : va_W)) res.1) ([.ref (aM 0)] : List Value).toArray s 0 0 A) (F0 m 408 ls [.int t0_57]) := by
                  intro row_57 v3_57 t0_57 H locs ls h hP hD hS hl
                  unfold f_X5_runs_j408 at h
                  refine lv_istore (lv' := [(4, .int t0_57), (0, .ref (aM 0)), (1, .int v1_18), (2, .int q23.1), (3, .int v3_57)]) hx hb dX5_runs_408 hl (by decide) rfl (fun ls hl => ?_)
                  refine lv_aload_n hx hb dX5_runs_410 rfl (lv_at hl 1 rfl) ?_
                  refine lv_iload_n hx hb dX5_runs_411 rfl (lv_at hl 4 rfl) ?_
                  obtain ⟨q58, hq58, h⟩ := bd_s h
                  refine kVi (n := 1) (C := RX5) (ws' := wM cI cJ aM row_57 q37.2 q23.2.1 q22 q23.2.2.1 q23.2.2.2.1 txt par sav q23.2.2.2.2.1 q23.2.2.2.2.2.1 q23.2.2.2.2.2.2 len mat ask hh ++ ([] : va_W)) (As := [.int v3_57]) (rest := []) hx hb hml hown hts (c_X5_fuelOf l G cI cJ cZ cO cA e aM _ row_57 q37.2 q23.2.1 q22 q23.2.2.1 q23.2.2.2.1 txt par sav q23.2.2.2.2.1 q23.2.2.2.2.2.1 q23.2.2.2.2.2.2 len mat ask hh v3_57 hq58) (tb_V kw673 kw675 kv19 kw7 kw676) rfl rfl (by decide +kernel) ⟨Nat.le_of_ble_eq_true rfl, Nat.le_of_ble_eq_true rfl⟩ hK hP hD hS hA hE 0 rfl rfl [0, 1, 2, 3, 4, 5, 6, 7, 8] [] rfl rfl rfl 9 ⟨rfl, rfl⟩ (by decide +kernel) (by decide +kernel) rfl rfl hl.1 (Nat.le_of_ble_eq_true rfl) ⟨Nat.zero_le _, Nat.zero_le _⟩ dX5_runs_412 (fun H locs hP hD hS => ?_)
                  refine lv_iload hx hb dX5_runs_415 (lv_at hl 0 rfl) ?_
                  refine lv_aload_n hx hb dX5_runs_417 rfl (lv_at hl 1 rfl) ?_
                  refine lv_iload_n hx hb dX5_runs_418 rfl (lv_at hl 4 rfl) ?_
                  refine lv_iconst (v := 3) hx hb dX5_runs_419 (by decide) ?_
                  obtain ⟨q59, hq59, h⟩ := bd_s h
                  refine kVi (n := 2) (C := RX5) (ws' := wM cI cJ aM row_57 q37.2 q23.2.1 q22 q23.2.2.1 q23.2.2.2.1 txt par sav q23.2.2.2.2.1 q23.2.2.2.2.2.1 q23.2.2.2.2.2.2 len mat ask hh ++ ([] : va_W)) (As := [.int v3_57, .int 3]) (rest := [.int t0_57, .int q58]) hx hb hml hown hts (c_X5_of l G cI cJ cZ cO cA e aM _ row_57 q37.2 q23.2.1 q22 q23.2.2.1 q23.2.2.2.1 txt par sav q23.2.2.2.2.1 q23.2.2.2.2.2.1 q23.2.2.2.2.2.2 len mat ask hh v3_57 3 hq59) (tb_V kw657 kw659 kv17 kw7 kw660) rfl rfl (by decide +kernel) ⟨Nat.le_of_ble_eq_true rfl, Nat.le_of_ble_eq_true rfl⟩ hK hP hD hS hA hE 0 rfl rfl [0, 1, 2, 3, 4, 5, 6, 7, 8] [] rfl rfl rfl 9 ⟨rfl, rfl⟩ (by decide +kernel) (by decide +kernel) rfl rfl hl.1 (Nat.le_of_ble_eq_true rfl) ⟨Nat.zero_le _, Nat.zero_le _⟩ dX5_runs_420 (fun H locs hP hD hS => ?_)
                  refine lv_imul hx hb dX5_runs_423 ?_
                  refine lv_isub hx hb dX5_runs_424 ?_
                  refine lv_istore (lv' := [(5, .int (q58 - (t0_57 * q59))), (4, .int t0_57), (0, .ref (aM 0)), (1, .int v1_18), (2, .int q23.1), (3, .int v3_57)]) hx hb dX5_runs_425 hl (by decide) rfl (fun ls hl => ?_)
                  refine lv_aload_n hx hb dX5_runs_427 rfl (lv_at hl 2 rfl) ?_
                  refine va_get (D := G) (ci := 5) (v := .ref (aM 1)) (C := RX5) (T := TX5) (N := 16) hx hb hts uX5 hown hK hP 0 rfl rfl 0 (by decide) (hts _ kw579) (fun _ h9 => h9) rfl dX5_runs_428 ?_
                  refine lv_bipush (v := 57) hx hb dX5_runs_431 (by decide) ?_
                  refine lv_aload_n hx hb dX5_runs_433 rfl (lv_at hl 2 rfl) ?_
                  refine lv_iload_n hx hb dX5_runs_434 rfl (lv_at hl 5 rfl) ?_
                  refine lv_iconst (v := 4) hx hb dX5_runs_435 (by decide) ?_
                  obtain ⟨q60, hq60, h⟩ := bd_s h
                  refine kVi (n := 2) (C := RX5) (ws' := wM cI cJ aM row_57 q37.2 q23.2.1 q22 q23.2.2.1 q23.2.2.2.1 txt par sav q23.2.2.2.2.1 q23.2.2.2.2.2.1 q23.2.2.2.2.2.2 len mat ask hh ++ ([] : va_W)) (As := [.int v3_57, .int 4]) (rest := [.int 57, .ref (aM 1)]) hx hb hml hown hts (c_X5_of l G cI cJ cZ cO cA e aM _ row_57 q37.2 q23.2.1 q22 q23.2.2.1 q23.2.2.2.1 txt par sav q23.2.2.2.2.1 q23.2.2.2.2.2.1 q23.2.2.2.2.2.2 len mat ask hh v3_57 4 hq60) (tb_V kw657 kw659 kv17 kw7 kw660) rfl rfl (by decide +kernel) ⟨Nat.le_of_ble_eq_true rfl, Nat.le_of_ble_eq_true rfl⟩ hK hP hD hS hA hE 0 rfl rfl [0, 1, 2, 3, 4, 5, 6, 7, 8] [] rfl rfl rfl 9 ⟨rfl, rfl⟩ (by decide +kernel) (by decide +kernel) rfl rfl hl.1 (Nat.le_of_ble_eq_true rfl) ⟨Nat.zero_le _, Nat.zero_le _⟩ dX5_runs_436 (fun H locs hP hD hS => ?_)
                  refine lv_iadd hx hb dX5_runs_439 ?_
                  refine lv_iload hx hb dX5_runs_440 (lv_at hl 0 rfl) ?_
                  have hJ62 : ∀ (row_62 : Nat → Int32) (v3_62 : Int32) (t0_62 : Int32) (t1_62 : Int32) (H : Heap) (locs : List Loc) (ls : Array Slot), f_X5_runs_j451 row_62 v3_62 t0_62 t1_62 = some o53 → va_P G vwCl (wM cI cJ aM row_62 q37.2 q23.2.1 q22 q23.2.2.1 q23.2.2.2.1 txt par sav q23.2.2.2.2.1 q23.2.2.2.2.2.1 q23.2.2.2.2.2.2 len mat ask hh ++ ([] : va_W)) H → va_D A (wM cI cJ aM row_62 q37.2 q23.2.1 q22 q23.2.2.1 q23.2.2.2.1 txt par sav q23.2.2.2.2.1 q23.2.2.2.2.2.1 q23.2.2.2.2.2.2 len mat ask hh ++ ([] : va_W)) → va_S A s.heap H locs → lv_has ls 7 [(0, .ref (aM 0)), (1, .int v1_18), (2, .int q23.1), (3, .int v3_62)] → W p l ev ({ frames := 7, cells := 0, slots := 0, locals := 166 } : Room) s m ([.ref (aM 0)] : List Value).toArray below meth c H locs 0 0 (MQ below (qI G (ty5 cI cJ cZ cO cA) A (wM cI cJ aM res.2.1 res.2.2.1 res.2.2.2.1 res.2.2.2.2.1 res.2.2.2.2.2.1 res.2.2.2.2.2.2.1 txt par sav res.2.2.2.2.2.2.2.1 res.2.2.2.2.2.2.2.2.1 res.2.2.2.2.2.2.2.2.2 len mat ask hh ++ ([] : va_W)) res.1) ([.ref (aM 0)] : List Value).toArray s 0 0 A) (F0 m 451 ls [.int t0_62, .int t1_62, .ref (aM 1)]) := by
                    intro row_62 v3_62 t0_62 t1_62 H locs ls h hP hD hS hl
                    unfold f_X5_runs_j451 at h
                    obtain ⟨g63, h⟩ := gd_s h
                    refine va_iast hx hb hK hP hD hS 1 0 rfl rfl (ib_in g63) dX5_runs_451 (fun H locs hP hD hS => ?_)
                    have hP : va_P G vwCl (wM cI cJ aM (upd row_62 t1_62.toNatClampNeg t0_62) q37.2 q23.2.1 q22 q23.2.2.1 q23.2.2.2.1 txt par sav q23.2.2.2.2.1 q23.2.2.2.2.2.1 q23.2.2.2.2.2.2 len mat ask hh ++ ([] : va_W)) H := hP
                    have hD : va_D A (wM cI cJ aM (upd row_62 t1_62.toNatClampNeg t0_62) q37.2 q23.2.1 q22 q23.2.2.1 q23.2.2.2.1 txt par sav q23.2.2.2.2.1 q23.2.2.2.2.2.1 q23.2.2.2.2.2.2 len mat ask hh ++ ([] : va_W)) := hD
                    refine lv_iinc (v := (v3_62 + 1)) (lv' := [(3, .int (v3_62 + 1)), (0, .ref (aM 0)), (1, .int v1_18), (2, .int q23.1)]) hx hb dX5_runs_452 hl (k := 3) rfl rfl (by decide) rfl (fun ls hl => ?_)
                    refine lv_goto (tgt := 375) hx hb dX5_runs_455 (by decide) ?_
                    rw [← Option.some.inj h] at h53
                    exact ih53 ((upd row_62 t1_62.toNatClampNeg t0_62), (v3_62 + 1)) _ _ _ (lp_b h53) hP hD hS (lv_sub hl [1, 2, 3, 0] rfl)
                  refine lv_if_ge (tgt := 449) hx hb dX5_runs_442 (by decide) (fun c61 => ?_) (fun c61 => ?_)
                  · replace h := (if_pos c61).symm.trans h
                    refine lv_iload hx hb dX5_runs_449 (lv_at hl 0 rfl) ?_
                    exact hJ62 row_57 v3_57 (q58 - (t0_57 * q59)) (57 + q60) _ _ _ h hP hD hS (lv_sub hl [2, 3, 4, 5] rfl)
                  · replace h := (if_neg c61).symm.trans h
                    refine lv_iconst (v := 0) hx hb dX5_runs_445 (by decide) ?_
                    refine lv_goto (tgt := 451) hx hb dX5_runs_446 (by decide) ?_
                    exact hJ62 row_57 v3_57 0 (57 + q60) _ _ _ h hP hD hS (lv_sub hl [2, 3, 4, 5] rfl)
                refine lv_icmp_ne (tgt := 399) hx hb dX5_runs_391 (by decide) (fun c56 => ?_) (fun c56 => ?_)
                · replace h := (if_neg c56).symm.trans h
                  refine lv_aload_n hx hb dX5_runs_399 rfl (lv_at hl 0 rfl) ?_
                  refine va_get (D := G) (ci := 5) (v := .ref (aM 1)) (C := RX5) (T := TX5) (N := 16) hx hb hts uX5 hown hK hP 0 rfl rfl 0 (by decide) (hts _ kw579) (fun _ h9 => h9) rfl dX5_runs_400 ?_
                  refine lv_bipush (v := 108) hx hb dX5_runs_403 (by decide) ?_
                  refine lv_iload_n hx hb dX5_runs_405 rfl (lv_at hl 3 rfl) ?_
                  refine lv_iadd hx hb dX5_runs_406 ?_
                  obtain ⟨g64, h⟩ := gd_s h
                  refine va_iald hx hb hK hP 1 0 rfl rfl (ib_in g64) dX5_runs_407 ?_
                  exact hJ57 z53.1 z53.2 (z53.1 (108 + z53.2).toNatClampNeg) _ _ _ h hP hD hS (lv_sub hl [0, 1, 2, 3] rfl)
                · replace h := (if_pos c56).symm.trans h
                  refine lv_bipush (v := 20) hx hb dX5_runs_394 (by decide) ?_
                  refine lv_goto (tgt := 408) hx hb dX5_runs_396 (by decide) ?_
                  exact hJ57 z53.1 z53.2 20 _ _ _ h hP hD hS (lv_sub hl [0, 1, 2, 3] rfl)
          exact hL53 _ (q37.1, 0) _ _ _ hq53 hP hD hS (lv_sub hl [1, 2, 3, 0] rfl)
        have hL37 : ∀ (n : Nat) (z37 : (Nat → Int32) × (Nat → Int64) × Int32) (H : Heap) (locs : List Loc) (ls : Array Slot), lp (f_X5_runs_b231 v1_18) n z37 = some q37 → va_P G vwCl (wM cI cJ aM z37.1 z37.2.1 q23.2.1 q22 q23.2.2.1 q23.2.2.2.1 txt par sav q23.2.2.2.2.1 q23.2.2.2.2.2.1 q23.2.2.2.2.2.2 len mat ask hh ++ ([] : va_W)) H → va_D A (wM cI cJ aM z37.1 z37.2.1 q23.2.1 q22 q23.2.2.1 q23.2.2.2.1 txt par sav q23.2.2.2.2.1 q23.2.2.2.2.2.1 q23.2.2.2.2.2.2 len mat ask hh ++ ([] : va_W)) → va_S A s.heap H locs → lv_has ls 7 [(0, .ref (aM 0)), (1, .int v1_18), (2, .int q23.1), (3, .int z37.2.2)] → W p l ev ({ frames := 7, cells := 0, slots := 0, locals := 166 } : Room) s m ([.ref (aM 0)] : List Value).toArray below meth c H locs 0 0 (MQ below (qI G (ty5 cI cJ cZ cO cA) A (wM cI cJ aM res.2.1 res.2.2.1 res.2.2.2.1 res.2.2.2.2.1 res.2.2.2.2.2.1 res.2.2.2.2.2.2.1 txt par sav res.2.2.2.2.2.2.2.1 res.2.2.2.2.2.2.2.2.1 res.2.2.2.2.2.2.2.2.2 len mat ask hh ++ ([] : va_W)) res.1) ([.ref (aM 0)] : List Value).toArray s 0 0 A) (F0 m 231 ls []) := by
          intro n
          induction n with
          | zero => intro z37 H locs ls h; cases h
          | succ n ih37 =>
            intro z37 H locs ls h hP hD hS hl
            obtain ⟨o37, h, h37⟩ := lp_s h
            unfold f_X5_runs_b231 at h
            refine lv_iload_n hx hb dX5_runs_231 rfl (lv_at hl 3 rfl) ?_
            refine lv_iconst (v := 3) hx hb dX5_runs_232 (by decide) ?_
            refine lv_icmp_ge (tgt := 373) hx hb dX5_runs_233 (by decide) (fun c38 => ?_) (fun c38 => ?_)
            · replace h := (if_pos c38).symm.trans h
              rw [← Option.some.inj h] at h37
              exact hX37_0 (z37.1, z37.2.1) _ _ _ (lp_x h37) hP hD hS (lv_sub hl [0, 1, 2] rfl)
            · replace h := (if_neg c38).symm.trans h
              refine lv_iconst (v := 0) hx hb dX5_runs_236 (by decide) ?_
              refine lv_istore (lv' := [(4, .int 0), (0, .ref (aM 0)), (1, .int v1_18), (2, .int q23.1), (3, .int z37.2.2)]) hx hb dX5_runs_237 hl (by decide) rfl (fun ls hl => ?_)
              refine lv_iconst (v := 0) hx hb dX5_runs_239 (by decide) ?_
              refine lv_istore (lv' := [(5, .int 0), (4, .int 0), (0, .ref (aM 0)), (1, .int v1_18), (2, .int q23.1), (3, .int z37.2.2)]) hx hb dX5_runs_240 hl (by decide) rfl (fun ls hl => ?_)
              refine lv_iconst (v := 0) hx hb dX5_runs_242 (by decide) ?_
              refine lv_istore (lv' := [(6, .int 0), (5, .int 0), (4, .int 0), (0, .ref (aM 0)), (1, .int v1_18), (2, .int q23.1), (3, .int z37.2.2)]) hx hb dX5_runs_243 hl (by decide) rfl (fun ls hl => ?_)
              obtain ⟨q39, hq39, h⟩ := bd_s h
              have hX39_0 : ∀ (x39 : Int32 × Int32) (H : Heap) (locs : List Loc) (ls : Array Slot), x39 = q39 → va_P G vwCl (wM cI cJ aM z37.1 z37.2.1 q23.2.1 q22 q23.2.2.1 q23.2.2.2.1 txt par sav q23.2.2.2.2.1 q23.2.2.2.2.2.1 q23.2.2.2.2.2.2 len mat ask hh ++ ([] : va_W)) H → va_D A (wM cI cJ aM z37.1 z37.2.1 q23.2.1 q22 q23.2.2.1 q23.2.2.2.1 txt par sav q23.2.2.2.2.1 q23.2.2.2.2.2.1 q23.2.2.2.2.2.2 len mat ask hh ++ ([] : va_W)) → va_S A s.heap H locs → lv_has ls 7 [(0, .ref (aM 0)), (1, .int v1_18), (2, .int q23.1), (3, .int z37.2.2), (4, .int x39.1), (5, .int x39.2)] → W p l ev ({ frames := 7, cells := 0, slots := 0, locals := 166 } : Room) s m ([.ref (aM 0)] : List Value).toArray below meth c H locs 0 0 (MQ below (qI G (ty5 cI cJ cZ cO cA) A (wM cI cJ aM res.2.1 res.2.2.1 res.2.2.2.1 res.2.2.2.2.1 res.2.2.2.2.2.1 res.2.2.2.2.2.2.1 txt par sav res.2.2.2.2.2.2.2.1 res.2.2.2.2.2.2.2.2.1 res.2.2.2.2.2.2.2.2.2 len mat ask hh ++ ([] : va_W)) res.1) ([.ref (aM 0)] : List Value).toArray s 0 0 A) (F0 m 314 ls []) := by
                intro x39 H locs ls e39 hP hD hS hl
                replace e39 := e39.symm
                subst e39
                refine lv_aload_n hx hb dX5_runs_314 rfl (lv_at hl 0 rfl) ?_
                refine va_get (D := G) (ci := 5) (v := .ref (aM 1)) (C := RX5) (T := TX5) (N := 16) hx hb hts uX5 hown hK hP 0 rfl rfl 0 (by decide) (hts _ kw579) (fun _ h9 => h9) rfl dX5_runs_315 ?_
                refine lv_bipush (v := 102) hx hb dX5_runs_318 (by decide) ?_
                refine lv_iload_n hx hb dX5_runs_320 rfl (lv_at hl 3 rfl) ?_
                refine lv_iadd hx hb dX5_runs_321 ?_
                refine lv_iload hx hb dX5_runs_322 (lv_at hl 4 rfl) ?_
                refine lv_iload hx hb dX5_runs_324 (lv_at hl 5 rfl) ?_
                refine lv_iadd hx hb dX5_runs_326 ?_
                obtain ⟨g47, h⟩ := gd_s h
                refine va_iast hx hb hK hP hD hS 1 0 rfl rfl (ib_in g47) dX5_runs_327 (fun H locs hP hD hS => ?_)
                have hP : va_P G vwCl (wM cI cJ aM (upd z37.1 (102 + z37.2.2).toNatClampNeg (q39.1 + q39.2)) z37.2.1 q23.2.1 q22 q23.2.2.1 q23.2.2.2.1 txt par sav q23.2.2.2.2.1 q23.2.2.2.2.2.1 q23.2.2.2.2.2.2 len mat ask hh ++ ([] : va_W)) H := hP
                have hD : va_D A (wM cI cJ aM (upd z37.1 (102 + z37.2.2).toNatClampNeg (q39.1 + q39.2)) z37.2.1 q23.2.1 q22 q23.2.2.1 q23.2.2.2.1 txt par sav q23.2.2.2.2.1 q23.2.2.2.2.2.1 q23.2.2.2.2.2.2 len mat ask hh ++ ([] : va_W)) := hD
                refine lv_aload_n hx hb dX5_runs_328 rfl (lv_at hl 0 rfl) ?_
                refine va_get (D := G) (ci := 5) (v := .ref (aM 1)) (C := RX5) (T := TX5) (N := 16) hx hb hts uX5 hown hK hP 0 rfl rfl 0 (by decide) (hts _ kw579) (fun _ h9 => h9) rfl dX5_runs_329 ?_
                refine lv_bipush (v := 99) hx hb dX5_runs_332 (by decide) ?_
                refine lv_iload_n hx hb dX5_runs_334 rfl (lv_at hl 3 rfl) ?_
                refine lv_iadd hx hb dX5_runs_335 ?_
                refine lv_aload_n hx hb dX5_runs_336 rfl (lv_at hl 0 rfl) ?_
                refine va_get (D := G) (ci := 5) (v := .ref (aM 1)) (C := RX5) (T := TX5) (N := 16) hx hb hts uX5 hown hK hP 0 rfl rfl 0 (by decide) (hts _ kw579) (fun _ h9 => h9) rfl dX5_runs_337 ?_
                refine lv_bipush (v := 105) hx hb dX5_runs_340 (by decide) ?_
                refine lv_iload_n hx hb dX5_runs_342 rfl (lv_at hl 3 rfl) ?_
                refine lv_iadd hx hb dX5_runs_343 ?_
                obtain ⟨g48, h⟩ := gd_s h
                refine va_iald hx hb hK hP 1 0 rfl rfl (ib_in g48) dX5_runs_344 ?_
                refine lv_iload hx hb dX5_runs_345 (lv_at hl 4 rfl) ?_
                refine lv_isub hx hb dX5_runs_347 ?_
                obtain ⟨q49, hq49, h⟩ := bd_s h
                refine kSi (n := 1) (As := [.int (((upd z37.1 (102 + z37.2.2).toNatClampNeg (q39.1 + q39.2)) (105 + z37.2.2).toNatClampNeg) - q39.1)]) (rest := [.int (99 + z37.2.2), .ref (aM 1)]) hx hb hml hown hts (c_X5_held l G cI cJ cZ cO cA e _ (((upd z37.1 (102 + z37.2.2).toNatClampNeg (q39.1 + q39.2)) (105 + z37.2.2).toNatClampNeg) - q39.1) hq49) (tb_S kw831 kw832 kw7 kw833) rfl rfl (by decide +kernel) ⟨Nat.le_of_ble_eq_true rfl, Nat.le_of_ble_eq_true rfl⟩ hK hP hD hS hA hE rfl rfl hl.1 (Nat.le_of_ble_eq_true rfl) ⟨Nat.zero_le _, Nat.zero_le _⟩ dX5_runs_348 (fun H locs hP hD hS => ?_)
                obtain ⟨g50, h⟩ := gd_s h
                refine va_iast hx hb hK hP hD hS 1 0 rfl rfl (ib_in g50) dX5_runs_351 (fun H locs hP hD hS => ?_)
                have hP : va_P G vwCl (wM cI cJ aM (upd (upd z37.1 (102 + z37.2.2).toNatClampNeg (q39.1 + q39.2)) (99 + z37.2.2).toNatClampNeg q49) z37.2.1 q23.2.1 q22 q23.2.2.1 q23.2.2.2.1 txt par sav q23.2.2.2.2.1 q23.2.2.2.2.2.1 q23.2.2.2.2.2.2 len mat ask hh ++ ([] : va_W)) H := hP
                have hD : va_D A (wM cI cJ aM (upd (upd z37.1 (102 + z37.2.2).toNatClampNeg (q39.1 + q39.2)) (99 + z37.2.2).toNatClampNeg q49) z37.2.1 q23.2.1 q22 q23.2.2.1 q23.2.2.2.1 txt par sav q23.2.2.2.2.1 q23.2.2.2.2.2.1 q23.2.2.2.2.2.2 len mat ask hh ++ ([] : va_W)) := hD
                refine lv_aload_n hx hb dX5_runs_352 rfl (lv_at hl 0 rfl) ?_
                refine va_get (D := G) (ci := 5) (v := .ref (aM 2)) (C := RX5) (T := TX5) (N := 16) hx hb hts uX5 hown hK hP 0 rfl rfl 1 (by decide) (hts _ kw580) (fun _ h9 => h9) rfl dX5_runs_353 ?_
                refine lv_iload_n hx hb dX5_runs_356 rfl (lv_at hl 3 rfl) ?_
                refine lv_dup2_11 hx hb dX5_runs_357 rfl rfl ?_
                obtain ⟨g51, h⟩ := gd_s h
                refine va_lald hx hb hK hP 2 1 rfl rfl (ib_in g51) dX5_runs_358 ?_
                refine lv_iload hx hb dX5_runs_359 (lv_at hl 4 rfl) ?_
                refine lv_iload hx hb dX5_runs_361 (lv_at hl 5 rfl) ?_
                refine lv_iadd hx hb dX5_runs_363 ?_
                refine lv_i2l (v := (q39.1 + q39.2).toInt64) hx hb dX5_runs_364 rfl ?_
                refine lv_ladd hx hb dX5_runs_365 ?_
                obtain ⟨g52, h⟩ := gd_s h
                refine va_last hx hb hK hP hD hS 2 1 rfl rfl (ib_in g52) dX5_runs_366 (fun H locs hP hD hS => ?_)
                have hP : va_P G vwCl (wM cI cJ aM (upd (upd z37.1 (102 + z37.2.2).toNatClampNeg (q39.1 + q39.2)) (99 + z37.2.2).toNatClampNeg q49) (vp_updL z37.2.1 z37.2.2.toNatClampNeg ((z37.2.1 z37.2.2.toNatClampNeg) + ((q39.1 + q39.2).toInt64))) q23.2.1 q22 q23.2.2.1 q23.2.2.2.1 txt par sav q23.2.2.2.2.1 q23.2.2.2.2.2.1 q23.2.2.2.2.2.2 len mat ask hh ++ ([] : va_W)) H := hP
                have hD : va_D A (wM cI cJ aM (upd (upd z37.1 (102 + z37.2.2).toNatClampNeg (q39.1 + q39.2)) (99 + z37.2.2).toNatClampNeg q49) (vp_updL z37.2.1 z37.2.2.toNatClampNeg ((z37.2.1 z37.2.2.toNatClampNeg) + ((q39.1 + q39.2).toInt64))) q23.2.1 q22 q23.2.2.1 q23.2.2.2.1 txt par sav q23.2.2.2.2.1 q23.2.2.2.2.2.1 q23.2.2.2.2.2.2 len mat ask hh ++ ([] : va_W)) := hD
                refine lv_iinc (v := (z37.2.2 + 1)) (lv' := [(3, .int (z37.2.2 + 1)), (0, .ref (aM 0)), (1, .int v1_18), (2, .int q23.1), (4, .int q39.1), (5, .int q39.2)]) hx hb dX5_runs_367 hl (k := 3) rfl rfl (by decide) rfl (fun ls hl => ?_)
                refine lv_goto (tgt := 231) hx hb dX5_runs_370 (by decide) ?_
                rw [← Option.some.inj h] at h37
                exact ih37 ((upd (upd z37.1 (102 + z37.2.2).toNatClampNeg (q39.1 + q39.2)) (99 + z37.2.2).toNatClampNeg q49), (vp_updL z37.2.1 z37.2.2.toNatClampNeg ((z37.2.1 z37.2.2.toNatClampNeg) + ((q39.1 + q39.2).toInt64))), (z37.2.2 + 1)) _ _ _ (lp_b h37) hP hD hS (lv_sub hl [1, 2, 3, 0] rfl)
              have hL39 : ∀ (n : Nat) (z39 : Int32 × Int32 × Int32) (H : Heap) (locs : List Loc) (ls : Array Slot), lp (f_X5_runs_b245 z37.1 v1_18 z37.2.2) n z39 = some q39 → va_P G vwCl (wM cI cJ aM z37.1 z37.2.1 q23.2.1 q22 q23.2.2.1 q23.2.2.2.1 txt par sav q23.2.2.2.2.1 q23.2.2.2.2.2.1 q23.2.2.2.2.2.2 len mat ask hh ++ ([] : va_W)) H → va_D A (wM cI cJ aM z37.1 z37.2.1 q23.2.1 q22 q23.2.2.1 q23.2.2.2.1 txt par sav q23.2.2.2.2.1 q23.2.2.2.2.2.1 q23.2.2.2.2.2.2 len mat ask hh ++ ([] : va_W)) → va_S A s.heap H locs → lv_has ls 7 [(0, .ref (aM 0)), (1, .int v1_18), (2, .int q23.1), (3, .int z37.2.2), (4, .int z39.1), (5, .int z39.2.1), (6, .int z39.2.2)] → W p l ev ({ frames := 7, cells := 0, slots := 0, locals := 166 } : Room) s m ([.ref (aM 0)] : List Value).toArray below meth c H locs 0 0 (MQ below (qI G (ty5 cI cJ cZ cO cA) A (wM cI cJ aM res.2.1 res.2.2.1 res.2.2.2.1 res.2.2.2.2.1 res.2.2.2.2.2.1 res.2.2.2.2.2.2.1 txt par sav res.2.2.2.2.2.2.2.1 res.2.2.2.2.2.2.2.2.1 res.2.2.2.2.2.2.2.2.2 len mat ask hh ++ ([] : va_W)) res.1) ([.ref (aM 0)] : List Value).toArray s 0 0 A) (F0 m 245 ls []) := by
                intro n
                induction n with
                | zero => intro z39 H locs ls h; cases h
                | succ n ih39 =>
                  intro z39 H locs ls h hP hD hS hl
                  obtain ⟨o39, h, h39⟩ := lp_s h
                  unfold f_X5_runs_b245 at h
                  refine lv_iload hx hb dX5_runs_245 (lv_at hl 6 rfl) ?_
                  refine lv_aload_n hx hb dX5_runs_247 rfl (lv_at hl 0 rfl) ?_
                  refine va_get (D := G) (ci := 5) (v := .ref (aM 1)) (C := RX5) (T := TX5) (N := 16) hx hb hts uX5 hown hK hP 0 rfl rfl 0 (by decide) (hts _ kw579) (fun _ h9 => h9) rfl dX5_runs_248 ?_
                  refine lv_iconst (v := 0) hx hb dX5_runs_251 (by decide) ?_
                  obtain ⟨g40, h⟩ := gd_s h
                  refine va_iald hx hb hK hP 1 0 rfl rfl (ib_in g40) dX5_runs_252 ?_
                  refine lv_icmp_ge (tgt := 314) hx hb dX5_runs_253 (by decide) (fun c41 => ?_) (fun c41 => ?_)
                  · replace h := (if_pos c41).symm.trans h
                    rw [← Option.some.inj h] at h39
                    exact hX39_0 (z39.1, z39.2.1) _ _ _ (lp_x h39) hP hD hS (lv_sub hl [0, 1, 2, 3, 4, 5] rfl)
                  · replace h := (if_neg c41).symm.trans h
                    refine lv_iload hx hb dX5_runs_256 (lv_at hl 4 rfl) ?_
                    refine lv_aload_n hx hb dX5_runs_258 rfl (lv_at hl 0 rfl) ?_
                    refine va_get (D := G) (ci := 5) (v := .ref (aM 1)) (C := RX5) (T := TX5) (N := 16) hx hb hts uX5 hown hK hP 0 rfl rfl 0 (by decide) (hts _ kw579) (fun _ h9 => h9) rfl dX5_runs_259 ?_
                    refine lv_bipush (v := 108) hx hb dX5_runs_262 (by decide) ?_
                    refine lv_iload hx hb dX5_runs_264 (lv_at hl 6 rfl) ?_
                    refine lv_iadd hx hb dX5_runs_266 ?_
                    obtain ⟨g42, h⟩ := gd_s h
                    refine va_iald hx hb hK hP 1 0 rfl rfl (ib_in g42) dX5_runs_267 ?_
                    refine lv_aload_n hx hb dX5_runs_268 rfl (lv_at hl 0 rfl) ?_
                    refine lv_iload hx hb dX5_runs_269 (lv_at hl 6 rfl) ?_
                    refine lv_iload_n hx hb dX5_runs_271 rfl (lv_at hl 3 rfl) ?_
                    obtain ⟨q43, hq43, h⟩ := bd_s h
                    refine kVi (n := 2) (C := RX5) (ws' := wM cI cJ aM z37.1 z37.2.1 q23.2.1 q22 q23.2.2.1 q23.2.2.2.1 txt par sav q23.2.2.2.2.1 q23.2.2.2.2.2.1 q23.2.2.2.2.2.2 len mat ask hh ++ ([] : va_W)) (As := [.int z39.2.2, .int z37.2.2]) (rest := [.int (z37.1 (108 + z39.2.2).toNatClampNeg), .int z39.1]) hx hb hml hown hts (c_X5_unitOf l G cI cJ cZ cO cA e aM _ z37.1 z37.2.1 q23.2.1 q22 q23.2.2.1 q23.2.2.2.1 txt par sav q23.2.2.2.2.1 q23.2.2.2.2.2.1 q23.2.2.2.2.2.2 len mat ask hh z39.2.2 z37.2.2 hq43) (tb_V kw688 kw690 kv21 kw7 kw691) rfl rfl (by decide +kernel) ⟨Nat.le_of_ble_eq_true rfl, Nat.le_of_ble_eq_true rfl⟩ hK hP hD hS hA hE 0 rfl rfl [0, 1, 2, 3, 4, 5, 6, 7, 8] [] rfl rfl rfl 9 ⟨rfl, rfl⟩ (by decide +kernel) (by decide +kernel) rfl rfl hl.1 (Nat.le_of_ble_eq_true rfl) ⟨Nat.zero_le _, Nat.zero_le _⟩ dX5_runs_272 (fun H locs hP hD hS => ?_)
                    refine lv_imul hx hb dX5_runs_275 ?_
                    refine lv_iadd hx hb dX5_runs_276 ?_
                    refine lv_istore (lv' := [(4, .int (z39.1 + ((z37.1 (108 + z39.2.2).toNatClampNeg) * q43))), (0, .ref (aM 0)), (1, .int v1_18), (2, .int q23.1), (3, .int z37.2.2), (5, .int z39.2.1), (6, .int z39.2.2)]) hx hb dX5_runs_277 hl (by decide) rfl (fun ls hl => ?_)
                    refine lv_iload hx hb dX5_runs_279 (lv_at hl 5 rfl) ?_
                    refine lv_iload_n hx hb dX5_runs_281 rfl (lv_at hl 2 rfl) ?_
                    refine lv_iload hx hb dX5_runs_282 (lv_at hl 6 rfl) ?_
                    refine lv_ishr hx hb dX5_runs_284 ?_
                    refine lv_iconst (v := 1) hx hb dX5_runs_285 (by decide) ?_
                    refine lv_iand hx hb dX5_runs_286 ?_
                    refine lv_iconst (v := 1) hx hb dX5_runs_287 (by decide) ?_
                    have hJ45 : ∀ (v4_45 : Int32) (v6_45 : Int32) (t0_45 : Int32) (t1_45 : Int32) (H : Heap) (locs : List Loc) (ls : Array Slot), f_X5_runs_j305 v4_45 v6_45 t0_45 t1_45 = some o39 → va_P G vwCl (wM cI cJ aM z37.1 z37.2.1 q23.2.1 q22 q23.2.2.1 q23.2.2.2.1 txt par sav q23.2.2.2.2.1 q23.2.2.2.2.2.1 q23.2.2.2.2.2.2 len mat ask hh ++ ([] : va_W)) H → va_D A (wM cI cJ aM z37.1 z37.2.1 q23.2.1 q22 q23.2.2.1 q23.2.2.2.1 txt par sav q23.2.2.2.2.1 q23.2.2.2.2.2.1 q23.2.2.2.2.2.2 len mat ask hh ++ ([] : va_W)) → va_S A s.heap H locs → lv_has ls 7 [(0, .ref (aM 0)), (1, .int v1_18), (2, .int q23.1), (3, .int z37.2.2), (4, .int v4_45), (6, .int v6_45)] → W p l ev ({ frames := 7, cells := 0, slots := 0, locals := 166 } : Room) s m ([.ref (aM 0)] : List Value).toArray below meth c H locs 0 0 (MQ below (qI G (ty5 cI cJ cZ cO cA) A (wM cI cJ aM res.2.1 res.2.2.1 res.2.2.2.1 res.2.2.2.2.1 res.2.2.2.2.2.1 res.2.2.2.2.2.2.1 txt par sav res.2.2.2.2.2.2.2.1 res.2.2.2.2.2.2.2.2.1 res.2.2.2.2.2.2.2.2.2 len mat ask hh ++ ([] : va_W)) res.1) ([.ref (aM 0)] : List Value).toArray s 0 0 A) (F0 m 305 ls [.int t0_45, .int t1_45]) := by
                      intro v4_45 v6_45 t0_45 t1_45 H locs ls h hP hD hS hl
                      unfold f_X5_runs_j305 at h
                      refine lv_iadd hx hb dX5_runs_305 ?_
                      refine lv_istore (lv' := [(5, .int (t1_45 + t0_45)), (0, .ref (aM 0)), (1, .int v1_18), (2, .int q23.1), (3, .int z37.2.2), (4, .int v4_45), (6, .int v6_45)]) hx hb dX5_runs_306 hl (by decide) rfl (fun ls hl => ?_)
                      refine lv_iinc (v := (v6_45 + 1)) (lv' := [(6, .int (v6_45 + 1)), (5, .int (t1_45 + t0_45)), (0, .ref (aM 0)), (1, .int v1_18), (2, .int q23.1), (3, .int z37.2.2), (4, .int v4_45)]) hx hb dX5_runs_308 hl (k := 6) rfl rfl (by decide) rfl (fun ls hl => ?_)
                      refine lv_goto (tgt := 245) hx hb dX5_runs_311 (by decide) ?_
                      rw [← Option.some.inj h] at h39
                      exact ih39 (v4_45, (t1_45 + t0_45), (v6_45 + 1)) _ _ _ (lp_b h39) hP hD hS (lv_sub hl [2, 3, 4, 5, 6, 1, 0] rfl)
                    refine lv_icmp_ne (tgt := 304) hx hb dX5_runs_288 (by decide) (fun c44 => ?_) (fun c44 => ?_)
                    · replace h := (if_neg c44).symm.trans h
                      refine lv_iconst (v := 0) hx hb dX5_runs_304 (by decide) ?_
                      exact hJ45 (z39.1 + ((z37.1 (108 + z39.2.2).toNatClampNeg) * q43)) z39.2.2 0 z39.2.1 _ _ _ h hP hD hS (lv_sub hl [1, 2, 3, 4, 0, 6] rfl)
                    · replace h := (if_pos c44).symm.trans h
                      refine lv_bipush (v := 20) hx hb dX5_runs_291 (by decide) ?_
                      refine lv_aload_n hx hb dX5_runs_293 rfl (lv_at hl 1 rfl) ?_
                      refine lv_iload hx hb dX5_runs_294 (lv_at hl 6 rfl) ?_
                      refine lv_iload_n hx hb dX5_runs_296 rfl (lv_at hl 4 rfl) ?_
                      obtain ⟨q46, hq46, h⟩ := bd_s h
                      refine kVi (n := 2) (C := RX5) (ws' := wM cI cJ aM z37.1 z37.2.1 q23.2.1 q22 q23.2.2.1 q23.2.2.2.1 txt par sav q23.2.2.2.2.1 q23.2.2.2.2.2.1 q23.2.2.2.2.2.2 len mat ask hh ++ ([] : va_W)) (As := [.int z39.2.2, .int z37.2.2]) (rest := [.int 20, .int z39.2.1]) hx hb hml hown hts (c_X5_unitOf l G cI cJ cZ cO cA e aM _ z37.1 z37.2.1 q23.2.1 q22 q23.2.2.1 q23.2.2.2.1 txt par sav q23.2.2.2.2.1 q23.2.2.2.2.2.1 q23.2.2.2.2.2.2 len mat ask hh z39.2.2 z37.2.2 hq46) (tb_V kw688 kw690 kv21 kw7 kw691) rfl rfl (by decide +kernel) ⟨Nat.le_of_ble_eq_true rfl, Nat.le_of_ble_eq_true rfl⟩ hK hP hD hS hA hE 0 rfl rfl [0, 1, 2, 3, 4, 5, 6, 7, 8] [] rfl rfl rfl 9 ⟨rfl, rfl⟩ (by decide +kernel) (by decide +kernel) rfl rfl hl.1 (Nat.le_of_ble_eq_true rfl) ⟨Nat.zero_le _, Nat.zero_le _⟩ dX5_runs_297 (fun H locs hP hD hS => ?_)
                      refine lv_imul hx hb dX5_runs_300 ?_
                      refine lv_goto (tgt := 305) hx hb dX5_runs_301 (by decide) ?_
                      exact hJ45 (z39.1 + ((z37.1 (108 + z39.2.2).toNatClampNeg) * q43)) z39.2.2 (20 * q46) z39.2.1 _ _ _ h hP hD hS (lv_sub hl [1, 2, 3, 4, 0, 6] rfl)
              exact hL39 _ (0, 0, 0) _ _ _ hq39 hP hD hS (lv_sub hl [3, 4, 5, 6, 2, 1, 0] rfl)
        exact hL37 _ (q25, tot_18, 0) _ _ _ hq37 hP hD hS (lv_sub hl [1, 2, 3, 0] rfl)
      have hL25 : ∀ (n : Nat) (z25 : (Nat → Int32) × Int32) (H : Heap) (locs : List Loc) (ls : Array Slot), lp (f_X5_runs_b164 q23.2.2.1 q23.2.2.2.2.1 q23.1) n z25 = some q25 → va_P G vwCl (wM cI cJ aM z25.1 tot_18 q23.2.1 q22 q23.2.2.1 q23.2.2.2.1 txt par sav q23.2.2.2.2.1 q23.2.2.2.2.2.1 q23.2.2.2.2.2.2 len mat ask hh ++ ([] : va_W)) H → va_D A (wM cI cJ aM z25.1 tot_18 q23.2.1 q22 q23.2.2.1 q23.2.2.2.1 txt par sav q23.2.2.2.2.1 q23.2.2.2.2.2.1 q23.2.2.2.2.2.2 len mat ask hh ++ ([] : va_W)) → va_S A s.heap H locs → lv_has ls 7 [(0, .ref (aM 0)), (1, .int v1_18), (2, .int q23.1), (3, .int z25.2)] → W p l ev ({ frames := 7, cells := 0, slots := 0, locals := 166 } : Room) s m ([.ref (aM 0)] : List Value).toArray below meth c H locs 0 0 (MQ below (qI G (ty5 cI cJ cZ cO cA) A (wM cI cJ aM res.2.1 res.2.2.1 res.2.2.2.1 res.2.2.2.2.1 res.2.2.2.2.2.1 res.2.2.2.2.2.2.1 txt par sav res.2.2.2.2.2.2.2.1 res.2.2.2.2.2.2.2.2.1 res.2.2.2.2.2.2.2.2.2 len mat ask hh ++ ([] : va_W)) res.1) ([.ref (aM 0)] : List Value).toArray s 0 0 A) (F0 m 164 ls []) := by
        intro n
        induction n with
        | zero => intro z25 H locs ls h; cases h
        | succ n ih25 =>
          intro z25 H locs ls h hP hD hS hl
          obtain ⟨o25, h, h25⟩ := lp_s h
          unfold f_X5_runs_b164 at h
          refine lv_iload_n hx hb dX5_runs_164 rfl (lv_at hl 3 rfl) ?_
          refine lv_aload_n hx hb dX5_runs_165 rfl (lv_at hl 0 rfl) ?_
          refine va_get (D := G) (ci := 5) (v := .ref (aM 1)) (C := RX5) (T := TX5) (N := 16) hx hb hts uX5 hown hK hP 0 rfl rfl 0 (by decide) (hts _ kw579) (fun _ h9 => h9) rfl dX5_runs_166 ?_
          refine lv_iconst (v := 0) hx hb dX5_runs_169 (by decide) ?_
          obtain ⟨g26, h⟩ := gd_s h
          refine va_iald hx hb hK hP 1 0 rfl rfl (ib_in g26) dX5_runs_170 ?_
          refine lv_icmp_ge (tgt := 229) hx hb dX5_runs_171 (by decide) (fun c27 => ?_) (fun c27 => ?_)
          · replace h := (if_pos c27).symm.trans h
            rw [← Option.some.inj h] at h25
            exact hX25_0 z25.1 _ _ _ (lp_x h25) hP hD hS (lv_sub hl [0, 1, 2] rfl)
          · replace h := (if_neg c27).symm.trans h
            refine lv_aload_n hx hb dX5_runs_174 rfl (lv_at hl 0 rfl) ?_
            refine va_get (D := G) (ci := 5) (v := .ref (aM 1)) (C := RX5) (T := TX5) (N := 16) hx hb hts uX5 hown hK hP 0 rfl rfl 0 (by decide) (hts _ kw579) (fun _ h9 => h9) rfl dX5_runs_175 ?_
            refine lv_bipush (v := 108) hx hb dX5_runs_178 (by decide) ?_
            refine lv_iload_n hx hb dX5_runs_180 rfl (lv_at hl 3 rfl) ?_
            refine lv_iadd hx hb dX5_runs_181 ?_
            refine lv_iload_n hx hb dX5_runs_182 rfl (lv_at hl 2 rfl) ?_
            have hJ29 : ∀ (row_29 : Nat → Int32) (v3_29 : Int32) (t0_29 : Int32) (t1_29 : Int32) (H : Heap) (locs : List Loc) (ls : Array Slot), f_X5_runs_j195 row_29 v3_29 t0_29 t1_29 = some o25 → va_P G vwCl (wM cI cJ aM row_29 tot_18 q23.2.1 q22 q23.2.2.1 q23.2.2.2.1 txt par sav q23.2.2.2.2.1 q23.2.2.2.2.2.1 q23.2.2.2.2.2.2 len mat ask hh ++ ([] : va_W)) H → va_D A (wM cI cJ aM row_29 tot_18 q23.2.1 q22 q23.2.2.1 q23.2.2.2.1 txt par sav q23.2.2.2.2.1 q23.2.2.2.2.2.1 q23.2.2.2.2.2.2 len mat ask hh ++ ([] : va_W)) → va_S A s.heap H locs → lv_has ls 7 [(0, .ref (aM 0)), (1, .int v1_18), (2, .int q23.1), (3, .int v3_29)] → W p l ev ({ frames := 7, cells := 0, slots := 0, locals := 166 } : Room) s m ([.ref (aM 0)] : List Value).toArray below meth c H locs 0 0 (MQ below (qI G (ty5 cI cJ cZ cO cA) A (wM cI cJ aM res.2.1 res.2.2.1 res.2.2.2.1 res.2.2.2.2.1 res.2.2.2.2.2.1 res.2.2.2.2.2.2.1 txt par sav res.2.2.2.2.2.2.2.1 res.2.2.2.2.2.2.2.2.1 res.2.2.2.2.2.2.2.2.2 len mat ask hh ++ ([] : va_W)) res.1) ([.ref (aM 0)] : List Value).toArray s 0 0 A) (F0 m 195 ls [.int t0_29, .int t1_29, .ref (aM 1)]) := by
              intro row_29 v3_29 t0_29 t1_29 H locs ls h hP hD hS hl
              unfold f_X5_runs_j195 at h
              obtain ⟨g30, h⟩ := gd_s h
              refine va_iast hx hb hK hP hD hS 1 0 rfl rfl (ib_in g30) dX5_runs_195 (fun H locs hP hD hS => ?_)
              have hP : va_P G vwCl (wM cI cJ aM (upd row_29 t1_29.toNatClampNeg t0_29) tot_18 q23.2.1 q22 q23.2.2.1 q23.2.2.2.1 txt par sav q23.2.2.2.2.1 q23.2.2.2.2.2.1 q23.2.2.2.2.2.2 len mat ask hh ++ ([] : va_W)) H := hP
              have hD : va_D A (wM cI cJ aM (upd row_29 t1_29.toNatClampNeg t0_29) tot_18 q23.2.1 q22 q23.2.2.1 q23.2.2.2.1 txt par sav q23.2.2.2.2.1 q23.2.2.2.2.2.1 q23.2.2.2.2.2.2 len mat ask hh ++ ([] : va_W)) := hD
              refine lv_aload_n hx hb dX5_runs_196 rfl (lv_at hl 0 rfl) ?_
              refine va_get (D := G) (ci := 5) (v := .ref (aM 1)) (C := RX5) (T := TX5) (N := 16) hx hb hts uX5 hown hK hP 0 rfl rfl 0 (by decide) (hts _ kw579) (fun _ h9 => h9) rfl dX5_runs_197 ?_
              refine lv_bipush (v := 116) hx hb dX5_runs_200 (by decide) ?_
              refine lv_dup2_11 hx hb dX5_runs_202 rfl rfl ?_
              obtain ⟨g31, h⟩ := gd_s h
              refine va_iald hx hb hK hP 1 0 rfl rfl (ib_in g31) dX5_runs_203 ?_
              refine lv_aload_n hx hb dX5_runs_204 rfl (lv_at hl 0 rfl) ?_
              refine lv_iload_n hx hb dX5_runs_205 rfl (lv_at hl 3 rfl) ?_
              refine lv_bipush (v := 6) hx hb dX5_runs_206 (by decide) ?_
              obtain ⟨q32, hq32, h⟩ := bd_s h
              refine kVi (n := 2) (C := RX5) (ws' := wM cI cJ aM (upd row_29 t1_29.toNatClampNeg t0_29) tot_18 q23.2.1 q22 q23.2.2.1 q23.2.2.2.1 txt par sav q23.2.2.2.2.1 q23.2.2.2.2.2.1 q23.2.2.2.2.2.2 len mat ask hh ++ ([] : va_W)) (As := [.int v3_29, .int 6]) (rest := [.int ((upd row_29 t1_29.toNatClampNeg t0_29) (116 : Int32).toNatClampNeg), .int 116, .ref (aM 1)]) hx hb hml hown hts (c_X5_of l G cI cJ cZ cO cA e aM _ (upd row_29 t1_29.toNatClampNeg t0_29) tot_18 q23.2.1 q22 q23.2.2.1 q23.2.2.2.1 txt par sav q23.2.2.2.2.1 q23.2.2.2.2.2.1 q23.2.2.2.2.2.2 len mat ask hh v3_29 6 hq32) (tb_V kw657 kw659 kv17 kw7 kw660) rfl rfl (by decide +kernel) ⟨Nat.le_of_ble_eq_true rfl, Nat.le_of_ble_eq_true rfl⟩ hK hP hD hS hA hE 0 rfl rfl [0, 1, 2, 3, 4, 5, 6, 7, 8] [] rfl rfl rfl 9 ⟨rfl, rfl⟩ (by decide +kernel) (by decide +kernel) rfl rfl hl.1 (Nat.le_of_ble_eq_true rfl) ⟨Nat.zero_le _, Nat.zero_le _⟩ dX5_runs_208 (fun H locs hP hD hS => ?_)
              have hJ34 : ∀ (row_34 : Nat → Int32) (v3_34 : Int32) (t0_34 : Int32) (t1_34 : Int32) (t2_34 : Int32) (H : Heap) (locs : List Loc) (ls : Array Slot), f_X5_runs_j221 row_34 v3_34 t0_34 t1_34 t2_34 = some o25 → va_P G vwCl (wM cI cJ aM row_34 tot_18 q23.2.1 q22 q23.2.2.1 q23.2.2.2.1 txt par sav q23.2.2.2.2.1 q23.2.2.2.2.2.1 q23.2.2.2.2.2.2 len mat ask hh ++ ([] : va_W)) H → va_D A (wM cI cJ aM row_34 tot_18 q23.2.1 q22 q23.2.2.1 q23.2.2.2.1 txt par sav q23.2.2.2.2.1 q23.2.2.2.2.2.1 q23.2.2.2.2.2.2 len mat ask hh ++ ([] : va_W)) → va_S A s.heap H locs → lv_has ls 7 [(0, .ref (aM 0)), (1, .int v1_18), (2, .int q23.1), (3, .int v3_34)] → W p l ev ({ frames := 7, cells := 0, slots := 0, locals := 166 } : Room) s m ([.ref (aM 0)] : List Value).toArray below meth c H locs 0 0 (MQ below (qI G (ty5 cI cJ cZ cO cA) A (wM cI cJ aM res.2.1 res.2.2.1 res.2.2.2.1 res.2.2.2.2.1 res.2.2.2.2.2.1 res.2.2.2.2.2.2.1 txt par sav res.2.2.2.2.2.2.2.1 res.2.2.2.2.2.2.2.2.1 res.2.2.2.2.2.2.2.2.2 len mat ask hh ++ ([] : va_W)) res.1) ([.ref (aM 0)] : List Value).toArray s 0 0 A) (F0 m 221 ls [.int t0_34, .int t1_34, .int t2_34, .ref (aM 1)]) := by
                intro row_34 v3_34 t0_34 t1_34 t2_34 H locs ls h hP hD hS hl
                unfold f_X5_runs_j221 at h
                refine lv_ior hx hb dX5_runs_221 ?_
                obtain ⟨g35, h⟩ := gd_s h
                refine va_iast hx hb hK hP hD hS 1 0 rfl rfl (ib_in g35) dX5_runs_222 (fun H locs hP hD hS => ?_)
                have hP : va_P G vwCl (wM cI cJ aM (upd row_34 t2_34.toNatClampNeg (t1_34 ||| t0_34)) tot_18 q23.2.1 q22 q23.2.2.1 q23.2.2.2.1 txt par sav q23.2.2.2.2.1 q23.2.2.2.2.2.1 q23.2.2.2.2.2.2 len mat ask hh ++ ([] : va_W)) H := hP
                have hD : va_D A (wM cI cJ aM (upd row_34 t2_34.toNatClampNeg (t1_34 ||| t0_34)) tot_18 q23.2.1 q22 q23.2.2.1 q23.2.2.2.1 txt par sav q23.2.2.2.2.1 q23.2.2.2.2.2.1 q23.2.2.2.2.2.2 len mat ask hh ++ ([] : va_W)) := hD
                refine lv_iinc (v := (v3_34 + 1)) (lv' := [(3, .int (v3_34 + 1)), (0, .ref (aM 0)), (1, .int v1_18), (2, .int q23.1)]) hx hb dX5_runs_223 hl (k := 3) rfl rfl (by decide) rfl (fun ls hl => ?_)
                refine lv_goto (tgt := 164) hx hb dX5_runs_226 (by decide) ?_
                rw [← Option.some.inj h] at h25
                exact ih25 ((upd row_34 t2_34.toNatClampNeg (t1_34 ||| t0_34)), (v3_34 + 1)) _ _ _ (lp_b h25) hP hD hS (lv_sub hl [1, 2, 3, 0] rfl)
              refine lv_if_ne (tgt := 220) hx hb dX5_runs_211 (by decide) (fun c33 => ?_) (fun c33 => ?_)
              · replace h := (if_neg c33).symm.trans h
                refine lv_iconst (v := 0) hx hb dX5_runs_220 (by decide) ?_
                exact hJ34 (upd row_29 t1_29.toNatClampNeg t0_29) v3_29 0 ((upd row_29 t1_29.toNatClampNeg t0_29) (116 : Int32).toNatClampNeg) 116 _ _ _ h hP hD hS (lv_sub hl [0, 1, 2, 3] rfl)
              · replace h := (if_pos c33).symm.trans h
                refine lv_iconst (v := 1) hx hb dX5_runs_214 (by decide) ?_
                refine lv_iload_n hx hb dX5_runs_215 rfl (lv_at hl 3 rfl) ?_
                refine lv_ishl hx hb dX5_runs_216 ?_
                refine lv_goto (tgt := 221) hx hb dX5_runs_217 (by decide) ?_
                exact hJ34 (upd row_29 t1_29.toNatClampNeg t0_29) v3_29 (1 <<< (v3_29 &&& 31)) ((upd row_29 t1_29.toNatClampNeg t0_29) (116 : Int32).toNatClampNeg) 116 _ _ _ h hP hD hS (lv_sub hl [0, 1, 2, 3] rfl)
            refine lv_if_eq (tgt := 194) hx hb dX5_runs_183 (by decide) (fun c28 => ?_) (fun c28 => ?_)
            · replace h := (if_pos c28).symm.trans h
              refine lv_iconst (v := 0) hx hb dX5_runs_194 (by decide) ?_
              exact hJ29 z25.1 z25.2 0 (108 + z25.2) _ _ _ h hP hD hS (lv_sub hl [0, 1, 2, 3] rfl)
            · replace h := (if_neg c28).symm.trans h
              refine lv_aload_n hx hb dX5_runs_186 rfl (lv_at hl 0 rfl) ?_
              refine lv_iload_n hx hb dX5_runs_187 rfl (lv_at hl 3 rfl) ?_
              obtain ⟨q36, hq36, h⟩ := bd_s h
              refine kVi (n := 1) (C := RX5) (ws' := wM cI cJ aM z25.1 tot_18 q23.2.1 q22 q23.2.2.1 q23.2.2.2.1 txt par sav q23.2.2.2.2.1 q23.2.2.2.2.2.1 q23.2.2.2.2.2.2 len mat ask hh ++ ([] : va_W)) (As := [.int z25.2]) (rest := [.int (108 + z25.2), .ref (aM 1)]) hx hb hml hown hts (c_X5_pulseOf l G cI cJ cZ cO cA e aM _ z25.1 tot_18 q23.2.1 q22 q23.2.2.1 q23.2.2.2.1 txt par sav q23.2.2.2.2.1 q23.2.2.2.2.2.1 q23.2.2.2.2.2.2 len mat ask hh z25.2 hq36) (tb_V kw774 kw776 kv31 kw7 kw777) rfl rfl (by decide +kernel) ⟨Nat.le_of_ble_eq_true rfl, Nat.le_of_ble_eq_true rfl⟩ hK hP hD hS hA hE 0 rfl rfl [0, 1, 2, 3, 4, 5, 6, 7, 8] [] rfl rfl rfl 9 ⟨rfl, rfl⟩ (by decide +kernel) (by decide +kernel) rfl rfl hl.1 (Nat.le_of_ble_eq_true rfl) ⟨Nat.zero_le _, Nat.zero_le _⟩ dX5_runs_188 (fun H locs hP hD hS => ?_)
              refine lv_goto (tgt := 195) hx hb dX5_runs_191 (by decide) ?_
              exact hJ29 z25.1 z25.2 q36 (108 + z25.2) _ _ _ h hP hD hS (lv_sub hl [0, 1, 2, 3] rfl)
      exact hL25 _ ((upd row_18 (116 : Int32).toNatClampNeg 0), 0) _ _ _ hq25 hP hD hS (lv_sub hl [2, 3, 1, 0] rfl)
    refine lv_if_le (tgt := 124) hx hb dX5_runs_116 (by decide) (fun c17 => ?_) (fun c17 => ?_)
    · replace h := (if_pos c17).symm.trans h
      exact hJ18 q2 tot tab goa bes tic bwh bpr bse q1 _ _ _ h hP hD hS (lv_sub hl [0, 1] rfl)
    · replace h := (if_neg c17).symm.trans h
      refine lv_aload_n hx hb dX5_runs_119 rfl (lv_at hl 0 rfl) ?_
      refine lv_iconst (v := 0) hx hb dX5_runs_120 (by decide) ?_
      obtain ⟨q68, hq68, h⟩ := bd_s h
      refine kVv (n := 1) (C := RX5) (ws' := wM cI cJ aM q68 tot tab goa bes tic txt par sav bwh bpr bse len mat ask hh ++ ([] : va_W)) (As := [.int 0]) (rest := []) hx hb hml hown hts (c_X5_takes l G cI cJ cZ cO cA e aM _ q2 tot tab goa bes tic txt par sav bwh bpr bse len mat ask hh 0 hq68) (tb_V kw811 kw813 kv35 kw7 kw814) rfl rfl (by decide +kernel) ⟨Nat.le_of_ble_eq_true rfl, Nat.le_of_ble_eq_true rfl⟩ hK hP hD hS hA hE 0 rfl rfl [0, 1, 2, 3, 4, 5, 6, 7, 8] [] rfl rfl rfl 9 ⟨rfl, rfl⟩ (by decide +kernel) (by decide +kernel) rfl rfl hl.1 (Nat.le_of_ble_eq_true rfl) ⟨Nat.zero_le _, Nat.zero_le _⟩ dX5_runs_121 (fun H locs hP hD hS => ?_)
      exact hJ18 q68 tot tab goa bes tic bwh bpr bse q1 _ _ _ h hP hD hS (lv_sub hl [0, 1] rfl)
  have hL2 : ∀ (n : Nat) (z2 : (Nat → Int32) × Int32) (H : Heap) (locs : List Loc) (ls : Array Slot), lp (f_X5_runs_b7 q1) n z2 = some q2 → va_P G vwCl (wM cI cJ aM z2.1 tot tab goa bes tic txt par sav bwh bpr bse len mat ask hh ++ ([] : va_W)) H → va_D A (wM cI cJ aM z2.1 tot tab goa bes tic txt par sav bwh bpr bse len mat ask hh ++ ([] : va_W)) → va_S A s.heap H locs → lv_has ls 7 [(0, .ref (aM 0)), (1, .int q1), (2, .int z2.2)] → W p l ev ({ frames := 7, cells := 0, slots := 0, locals := 166 } : Room) s m ([.ref (aM 0)] : List Value).toArray below meth c H locs 0 0 (MQ below (qI G (ty5 cI cJ cZ cO cA) A (wM cI cJ aM res.2.1 res.2.2.1 res.2.2.2.1 res.2.2.2.2.1 res.2.2.2.2.2.1 res.2.2.2.2.2.2.1 txt par sav res.2.2.2.2.2.2.2.1 res.2.2.2.2.2.2.2.2.1 res.2.2.2.2.2.2.2.2.2 len mat ask hh ++ ([] : va_W)) res.1) ([.ref (aM 0)] : List Value).toArray s 0 0 A) (F0 m 7 ls []) := by
    intro n
    induction n with
    | zero => intro z2 H locs ls h; cases h
    | succ n ih2 =>
      intro z2 H locs ls h hP hD hS hl
      obtain ⟨o2, h, h2⟩ := lp_s h
      unfold f_X5_runs_b7 at h
      refine lv_iload_n hx hb dX5_runs_7 rfl (lv_at hl 2 rfl) ?_
      refine lv_iconst (v := 3) hx hb dX5_runs_8 (by decide) ?_
      refine lv_icmp_ge (tgt := 109) hx hb dX5_runs_9 (by decide) (fun c3 => ?_) (fun c3 => ?_)
      · replace h := (if_pos c3).symm.trans h
        rw [← Option.some.inj h] at h2
        exact hX2_0 z2.1 _ _ _ (lp_x h2) hP hD hS (lv_sub hl [0, 1] rfl)
      · replace h := (if_neg c3).symm.trans h
        refine lv_aload_n hx hb dX5_runs_12 rfl (lv_at hl 0 rfl) ?_
        refine va_get (D := G) (ci := 5) (v := .ref (aM 1)) (C := RX5) (T := TX5) (N := 16) hx hb hts uX5 hown hK hP 0 rfl rfl 0 (by decide) (hts _ kw579) (fun _ h9 => h9) rfl dX5_runs_13 ?_
        refine lv_bipush (v := 99) hx hb dX5_runs_16 (by decide) ?_
        refine lv_iload_n hx hb dX5_runs_18 rfl (lv_at hl 2 rfl) ?_
        refine lv_iadd hx hb dX5_runs_19 ?_
        obtain ⟨g4, h⟩ := gd_s h
        refine va_iald hx hb hK hP 1 0 rfl rfl (ib_in g4) dX5_runs_20 ?_
        refine lv_aload_n hx hb dX5_runs_21 rfl (lv_at hl 0 rfl) ?_
        refine va_get (D := G) (ci := 5) (v := .ref (aM 1)) (C := RX5) (T := TX5) (N := 16) hx hb hts uX5 hown hK hP 0 rfl rfl 0 (by decide) (hts _ kw579) (fun _ h9 => h9) rfl dX5_runs_22 ?_
        refine lv_bipush (v := 68) hx hb dX5_runs_25 (by decide) ?_
        obtain ⟨g5, h⟩ := gd_s h
        refine va_iald hx hb hK hP 1 0 rfl rfl (ib_in g5) dX5_runs_27 ?_
        have hJ7 : ∀ (row_7 : Nat → Int32) (v2_7 : Int32) (t0_7 : Int32) (t1_7 : Int32) (H : Heap) (locs : List Loc) (ls : Array Slot), f_X5_runs_j44 row_7 q1 v2_7 t0_7 t1_7 = some o2 → va_P G vwCl (wM cI cJ aM row_7 tot tab goa bes tic txt par sav bwh bpr bse len mat ask hh ++ ([] : va_W)) H → va_D A (wM cI cJ aM row_7 tot tab goa bes tic txt par sav bwh bpr bse len mat ask hh ++ ([] : va_W)) → va_S A s.heap H locs → lv_has ls 7 [(0, .ref (aM 0)), (1, .int q1), (2, .int v2_7)] → W p l ev ({ frames := 7, cells := 0, slots := 0, locals := 166 } : Room) s m ([.ref (aM 0)] : List Value).toArray below meth c H locs 0 0 (MQ below (qI G (ty5 cI cJ cZ cO cA) A (wM cI cJ aM res.2.1 res.2.2.1 res.2.2.2.1 res.2.2.2.2.1 res.2.2.2.2.2.1 res.2.2.2.2.2.2.1 txt par sav res.2.2.2.2.2.2.2.1 res.2.2.2.2.2.2.2.2.1 res.2.2.2.2.2.2.2.2.2 len mat ask hh ++ ([] : va_W)) res.1) ([.ref (aM 0)] : List Value).toArray s 0 0 A) (F0 m 44 ls [.int t0_7, .int t1_7]) := by
          intro row_7 v2_7 t0_7 t1_7 H locs ls h hP hD hS hl
          unfold f_X5_runs_j44 at h
          refine lv_iadd hx hb dX5_runs_44 ?_
          refine lv_istore_n (lv' := [(3, .int (t1_7 + t0_7)), (0, .ref (aM 0)), (1, .int q1), (2, .int v2_7)]) hx hb dX5_runs_45 rfl hl (by decide) rfl (fun ls hl => ?_)
          refine lv_iconst (v := 0) hx hb dX5_runs_46 (by decide) ?_
          refine lv_istore (lv' := [(4, .int 0), (3, .int (t1_7 + t0_7)), (0, .ref (aM 0)), (1, .int q1), (2, .int v2_7)]) hx hb dX5_runs_47 hl (by decide) rfl (fun ls hl => ?_)
          obtain ⟨q8, hq8, h⟩ := bd_s h
          have hX8_0 : ∀ (x8 : Int32) (H : Heap) (locs : List Loc) (ls : Array Slot), x8 = q8 → va_P G vwCl (wM cI cJ aM row_7 tot tab goa bes tic txt par sav bwh bpr bse len mat ask hh ++ ([] : va_W)) H → va_D A (wM cI cJ aM row_7 tot tab goa bes tic txt par sav bwh bpr bse len mat ask hh ++ ([] : va_W)) → va_S A s.heap H locs → lv_has ls 7 [(0, .ref (aM 0)), (1, .int q1), (2, .int v2_7), (3, .int x8)] → W p l ev ({ frames := 7, cells := 0, slots := 0, locals := 166 } : Room) s m ([.ref (aM 0)] : List Value).toArray below meth c H locs 0 0 (MQ below (qI G (ty5 cI cJ cZ cO cA) A (wM cI cJ aM res.2.1 res.2.2.1 res.2.2.2.1 res.2.2.2.2.1 res.2.2.2.2.2.1 res.2.2.2.2.2.2.1 txt par sav res.2.2.2.2.2.2.2.1 res.2.2.2.2.2.2.2.2.1 res.2.2.2.2.2.2.2.2.2 len mat ask hh ++ ([] : va_W)) res.1) ([.ref (aM 0)] : List Value).toArray s 0 0 A) (F0 m 93 ls []) := by
            intro x8 H locs ls e8 hP hD hS hl
            replace e8 := e8.symm
            subst e8
            refine lv_aload_n hx hb dX5_runs_93 rfl (lv_at hl 0 rfl) ?_
            refine va_get (D := G) (ci := 5) (v := .ref (aM 1)) (C := RX5) (T := TX5) (N := 16) hx hb hts uX5 hown hK hP 0 rfl rfl 0 (by decide) (hts _ kw579) (fun _ h9 => h9) rfl dX5_runs_94 ?_
            refine lv_bipush (v := 105) hx hb dX5_runs_97 (by decide) ?_
            refine lv_iload_n hx hb dX5_runs_99 rfl (lv_at hl 2 rfl) ?_
            refine lv_iadd hx hb dX5_runs_100 ?_
            refine lv_iload_n hx hb dX5_runs_101 rfl (lv_at hl 3 rfl) ?_
            obtain ⟨g14, h⟩ := gd_s h
            refine va_iast hx hb hK hP hD hS 1 0 rfl rfl (ib_in g14) dX5_runs_102 (fun H locs hP hD hS => ?_)
            have hP : va_P G vwCl (wM cI cJ aM (upd row_7 (105 + v2_7).toNatClampNeg q8) tot tab goa bes tic txt par sav bwh bpr bse len mat ask hh ++ ([] : va_W)) H := hP
            have hD : va_D A (wM cI cJ aM (upd row_7 (105 + v2_7).toNatClampNeg q8) tot tab goa bes tic txt par sav bwh bpr bse len mat ask hh ++ ([] : va_W)) := hD
            refine lv_iinc (v := (v2_7 + 1)) (lv' := [(2, .int (v2_7 + 1)), (0, .ref (aM 0)), (1, .int q1), (3, .int q8)]) hx hb dX5_runs_103 hl (k := 2) rfl rfl (by decide) rfl (fun ls hl => ?_)
            refine lv_goto (tgt := 7) hx hb dX5_runs_106 (by decide) ?_
            rw [← Option.some.inj h] at h2
            exact ih2 ((upd row_7 (105 + v2_7).toNatClampNeg q8), (v2_7 + 1)) _ _ _ (lp_b h2) hP hD hS (lv_sub hl [1, 2, 0] rfl)
          have hL8 : ∀ (n : Nat) (z8 : Int32 × Int32) (H : Heap) (locs : List Loc) (ls : Array Slot), lp (f_X5_runs_b49 row_7 q1 v2_7) n z8 = some q8 → va_P G vwCl (wM cI cJ aM row_7 tot tab goa bes tic txt par sav bwh bpr bse len mat ask hh ++ ([] : va_W)) H → va_D A (wM cI cJ aM row_7 tot tab goa bes tic txt par sav bwh bpr bse len mat ask hh ++ ([] : va_W)) → va_S A s.heap H locs → lv_has ls 7 [(0, .ref (aM 0)), (1, .int q1), (2, .int v2_7), (3, .int z8.1), (4, .int z8.2)] → W p l ev ({ frames := 7, cells := 0, slots := 0, locals := 166 } : Room) s m ([.ref (aM 0)] : List Value).toArray below meth c H locs 0 0 (MQ below (qI G (ty5 cI cJ cZ cO cA) A (wM cI cJ aM res.2.1 res.2.2.1 res.2.2.2.1 res.2.2.2.2.1 res.2.2.2.2.2.1 res.2.2.2.2.2.2.1 txt par sav res.2.2.2.2.2.2.2.1 res.2.2.2.2.2.2.2.2.1 res.2.2.2.2.2.2.2.2.2 len mat ask hh ++ ([] : va_W)) res.1) ([.ref (aM 0)] : List Value).toArray s 0 0 A) (F0 m 49 ls []) := by
            intro n
            induction n with
            | zero => intro z8 H locs ls h; cases h
            | succ n ih8 =>
              intro z8 H locs ls h hP hD hS hl
              obtain ⟨o8, h, h8⟩ := lp_s h
              unfold f_X5_runs_b49 at h
              refine lv_iload hx hb dX5_runs_49 (lv_at hl 4 rfl) ?_
              refine lv_aload_n hx hb dX5_runs_51 rfl (lv_at hl 0 rfl) ?_
              refine va_get (D := G) (ci := 5) (v := .ref (aM 1)) (C := RX5) (T := TX5) (N := 16) hx hb hts uX5 hown hK hP 0 rfl rfl 0 (by decide) (hts _ kw579) (fun _ h9 => h9) rfl dX5_runs_52 ?_
              refine lv_iconst (v := 0) hx hb dX5_runs_55 (by decide) ?_
              obtain ⟨g9, h⟩ := gd_s h
              refine va_iald hx hb hK hP 1 0 rfl rfl (ib_in g9) dX5_runs_56 ?_
              refine lv_icmp_ge (tgt := 93) hx hb dX5_runs_57 (by decide) (fun c10 => ?_) (fun c10 => ?_)
              · replace h := (if_pos c10).symm.trans h
                rw [← Option.some.inj h] at h8
                exact hX8_0 z8.1 _ _ _ (lp_x h8) hP hD hS (lv_sub hl [0, 1, 2, 3] rfl)
              · replace h := (if_neg c10).symm.trans h
                refine lv_iload_n hx hb dX5_runs_60 rfl (lv_at hl 3 rfl) ?_
                refine lv_iload_n hx hb dX5_runs_61 rfl (lv_at hl 1 rfl) ?_
                refine lv_iload hx hb dX5_runs_62 (lv_at hl 4 rfl) ?_
                refine lv_ishr hx hb dX5_runs_64 ?_
                refine lv_iconst (v := 1) hx hb dX5_runs_65 (by decide) ?_
                refine lv_iand hx hb dX5_runs_66 ?_
                refine lv_iconst (v := 1) hx hb dX5_runs_67 (by decide) ?_
                have hJ12 : ∀ (v4_12 : Int32) (t0_12 : Int32) (t1_12 : Int32) (H : Heap) (locs : List Loc) (ls : Array Slot), f_X5_runs_j85 v4_12 t0_12 t1_12 = some o8 → va_P G vwCl (wM cI cJ aM row_7 tot tab goa bes tic txt par sav bwh bpr bse len mat ask hh ++ ([] : va_W)) H → va_D A (wM cI cJ aM row_7 tot tab goa bes tic txt par sav bwh bpr bse len mat ask hh ++ ([] : va_W)) → va_S A s.heap H locs → lv_has ls 7 [(0, .ref (aM 0)), (1, .int q1), (2, .int v2_7), (4, .int v4_12)] → W p l ev ({ frames := 7, cells := 0, slots := 0, locals := 166 } : Room) s m ([.ref (aM 0)] : List Value).toArray below meth c H locs 0 0 (MQ below (qI G (ty5 cI cJ cZ cO cA) A (wM cI cJ aM res.2.1 res.2.2.1 res.2.2.2.1 res.2.2.2.2.1 res.2.2.2.2.2.1 res.2.2.2.2.2.2.1 txt par sav res.2.2.2.2.2.2.2.1 res.2.2.2.2.2.2.2.2.1 res.2.2.2.2.2.2.2.2.2 len mat ask hh ++ ([] : va_W)) res.1) ([.ref (aM 0)] : List Value).toArray s 0 0 A) (F0 m 85 ls [.int t0_12, .int t1_12]) := by
                  intro v4_12 t0_12 t1_12 H locs ls h hP hD hS hl
                  unfold f_X5_runs_j85 at h
                  refine lv_isub hx hb dX5_runs_85 ?_
                  refine lv_istore_n (lv' := [(3, .int (t1_12 - t0_12)), (0, .ref (aM 0)), (1, .int q1), (2, .int v2_7), (4, .int v4_12)]) hx hb dX5_runs_86 rfl hl (by decide) rfl (fun ls hl => ?_)
                  refine lv_iinc (v := (v4_12 + 1)) (lv' := [(4, .int (v4_12 + 1)), (3, .int (t1_12 - t0_12)), (0, .ref (aM 0)), (1, .int q1), (2, .int v2_7)]) hx hb dX5_runs_87 hl (k := 4) rfl rfl (by decide) rfl (fun ls hl => ?_)
                  refine lv_goto (tgt := 49) hx hb dX5_runs_90 (by decide) ?_
                  rw [← Option.some.inj h] at h8
                  exact ih8 ((t1_12 - t0_12), (v4_12 + 1)) _ _ _ (lp_b h8) hP hD hS (lv_sub hl [2, 3, 4, 1, 0] rfl)
                refine lv_icmp_ne (tgt := 84) hx hb dX5_runs_68 (by decide) (fun c11 => ?_) (fun c11 => ?_)
                · replace h := (if_neg c11).symm.trans h
                  refine lv_iconst (v := 0) hx hb dX5_runs_84 (by decide) ?_
                  exact hJ12 z8.2 0 z8.1 _ _ _ h hP hD hS (lv_sub hl [0, 1, 2, 4] rfl)
                · replace h := (if_pos c11).symm.trans h
                  refine lv_bipush (v := 20) hx hb dX5_runs_71 (by decide) ?_
                  refine lv_aload_n hx hb dX5_runs_73 rfl (lv_at hl 0 rfl) ?_
                  refine lv_iload hx hb dX5_runs_74 (lv_at hl 4 rfl) ?_
                  refine lv_iload_n hx hb dX5_runs_76 rfl (lv_at hl 2 rfl) ?_
                  obtain ⟨q13, hq13, h⟩ := bd_s h
                  refine kVi (n := 2) (C := RX5) (ws' := wM cI cJ aM row_7 tot tab goa bes tic txt par sav bwh bpr bse len mat ask hh ++ ([] : va_W)) (As := [.int z8.2, .int v2_7]) (rest := [.int 20, .int z8.1]) hx hb hml hown hts (c_X5_unitOf l G cI cJ cZ cO cA e aM _ row_7 tot tab goa bes tic txt par sav bwh bpr bse len mat ask hh z8.2 v2_7 hq13) (tb_V kw688 kw690 kv21 kw7 kw691) rfl rfl (by decide +kernel) ⟨Nat.le_of_ble_eq_true rfl, Nat.le_of_ble_eq_true rfl⟩ hK hP hD hS hA hE 0 rfl rfl [0, 1, 2, 3, 4, 5, 6, 7, 8] [] rfl rfl rfl 9 ⟨rfl, rfl⟩ (by decide +kernel) (by decide +kernel) rfl rfl hl.1 (Nat.le_of_ble_eq_true rfl) ⟨Nat.zero_le _, Nat.zero_le _⟩ dX5_runs_77 (fun H locs hP hD hS => ?_)
                  refine lv_imul hx hb dX5_runs_80 ?_
                  refine lv_goto (tgt := 85) hx hb dX5_runs_81 (by decide) ?_
                  exact hJ12 z8.2 (20 * q13) z8.1 _ _ _ h hP hD hS (lv_sub hl [0, 1, 2, 4] rfl)
          exact hL8 _ ((t1_7 + t0_7), 0) _ _ _ hq8 hP hD hS (lv_sub hl [2, 3, 4, 1, 0] rfl)
        refine lv_if_le (tgt := 43) hx hb dX5_runs_28 (by decide) (fun c6 => ?_) (fun c6 => ?_)
        · replace h := (if_pos c6).symm.trans h
          refine lv_iconst (v := 0) hx hb dX5_runs_43 (by decide) ?_
          exact hJ7 z2.1 z2.2 0 (z2.1 (99 + z2.2).toNatClampNeg) _ _ _ h hP hD hS (lv_sub hl [0, 1, 2] rfl)
        · replace h := (if_neg c6).symm.trans h
          refine lv_aload_n hx hb dX5_runs_31 rfl (lv_at hl 0 rfl) ?_
          refine va_get (D := G) (ci := 5) (v := .ref (aM 1)) (C := RX5) (T := TX5) (N := 16) hx hb hts uX5 hown hK hP 0 rfl rfl 0 (by decide) (hts _ kw579) (fun _ h9 => h9) rfl dX5_runs_32 ?_
          refine lv_bipush (v := 69) hx hb dX5_runs_35 (by decide) ?_
          refine lv_iload_n hx hb dX5_runs_37 rfl (lv_at hl 2 rfl) ?_
          refine lv_iadd hx hb dX5_runs_38 ?_
          obtain ⟨g15, h⟩ := gd_s h
          refine va_iald hx hb hK hP 1 0 rfl rfl (ib_in g15) dX5_runs_39 ?_
          refine lv_goto (tgt := 44) hx hb dX5_runs_40 (by decide) ?_
          exact hJ7 z2.1 z2.2 (z2.1 (69 + z2.2).toNatClampNeg) (z2.1 (99 + z2.2).toNatClampNeg) _ _ _ h hP hD hS (lv_sub hl [0, 1, 2] rfl)
  exact hL2 _ (row, 0) _ _ _ hq2 hP hD hS (lv_sub hl [2, 1, 0] rfl)

/-! X5_firedSet -/
def f_X5_firedSet_j34 (v2 : Int32) (t0 : Int32) (t1 : Int32) : Option ((Int32 × Int32) ⊕ (Int32)) :=
  some (Sum.inl ((t1 ||| t0), (v2 + 1)))
def f_X5_firedSet_b4 (row : Nat → Int32) (z1 : Int32 × Int32) : Option ((Int32 × Int32) ⊕ (Int32)) :=
  gd (ib 0 708) (if (row (0 : Int32).toNatClampNeg) ≤ z1.2 then (some (Sum.inr z1.1)) else (gd (ib (108 + z1.2) 708) (if (row (108 + z1.2).toNatClampNeg) ≤ 0 then (f_X5_firedSet_j34 z1.2 0 z1.1) else (f_X5_firedSet_j34 z1.2 (1 <<< (z1.2 &&& 31)) z1.1))))
def f_X5_firedSet (row : Nat → Int32) : Option (Int32) :=
  (lp (f_X5_firedSet_b4 row) 1000 (0, 0)).bind (fun q1 => some q1)

set_option maxHeartbeats 4000000 in
set_option maxRecDepth 100000 in
theorem c_X5_firedSet (l : Launch) (G : va_G) (cI cJ cZ cO cA : ClassId) (e : Nat × Nat) (aM : Nat → Nat) (sz : Nat) (row : Nat → Int32) (tot : Nat → Int64) (tab : Nat → Int64) (goa : Nat → Int64) (bes : Nat → Int64) (tic : Nat → Int64) (txt : Nat → Int32) (par : Nat → Int32) (sav : Int32) (bwh : Int64) (bpr : Int64) (bse : Int32) (len : Int32) (mat : Int32) (ask : Int32) (hh : Int64) {res : Int32} (hf : f_X5_firedSet row = some res) : MetI l yX5_firedSet cX5_firedSet 3 .int ({ frames := 0, cells := 0, slots := 0, locals := 0 } : Room) [.ref (aM 0)] G (ty5 cI cJ cZ cO cA) e (wM cI cJ aM row tot tab goa bes tic txt par sav bwh bpr bse len mat ask hh ++ ([] : va_W)) (wM cI cJ aM row tot tab goa bes tic txt par sav bwh bpr bse len mat ask hh ++ ([] : va_W)) sz res := by
  refine g_body (QQ := fun A => (qI G (ty5 cI cJ cZ cO cA) A (wM cI cJ aM row tot tab goa bes tic txt par sav bwh bpr bse len mat ask hh ++ ([] : va_W)) res)) (own := RX5) (by decide) rfl (Nat.le_of_ble_eq_true rfl) ?_
  intro p ev s m below meth c A ls hx hb hr hml hown hts hlk hA hP hD hS hK hE hl
  have hl : lv_has ls 3 [(0, .ref (aM 0))] := hl
  show W p l ev ({ frames := 0, cells := 0, slots := 0, locals := 0 } : Room) s m ([.ref (aM 0)] : List Value).toArray below meth c s.heap [] 0 0 (MQ below (qI G (ty5 cI cJ cZ cO cA) A (wM cI cJ aM row tot tab goa bes tic txt par sav bwh bpr bse len mat ask hh ++ ([] : va_W)) res) ([.ref (aM 0)] : List Value).toArray s 0 0 A) (F0 m 0 ls [])
  have h := hf
  unfold f_X5_firedSet at h
  refine lv_iconst (v := 0) hx hb dX5_firedSet_0 (by decide) ?_
  refine lv_istore_n (lv' := [(1, .int 0), (0, .ref (aM 0))]) hx hb dX5_firedSet_1 rfl hl (by decide) rfl (fun ls hl => ?_)
  refine lv_iconst (v := 0) hx hb dX5_firedSet_2 (by decide) ?_
  refine lv_istore_n (lv' := [(2, .int 0), (1, .int 0), (0, .ref (aM 0))]) hx hb dX5_firedSet_3 rfl hl (by decide) rfl (fun ls hl => ?_)
  obtain ⟨q1, hq1, h⟩ := bd_s h
  have hX1_0 : ∀ (x1 : Int32) (H : Heap) (locs : List Loc) (ls : Array Slot), x1 = q1 → va_P G vwCl (wM cI cJ aM row tot tab goa bes tic txt par sav bwh bpr bse len mat ask hh ++ ([] : va_W)) H → va_D A (wM cI cJ aM row tot tab goa bes tic txt par sav bwh bpr bse len mat ask hh ++ ([] : va_W)) → va_S A s.heap H locs → lv_has ls 3 [(1, .int x1)] → W p l ev ({ frames := 0, cells := 0, slots := 0, locals := 0 } : Room) s m ([.ref (aM 0)] : List Value).toArray below meth c H locs 0 0 (MQ below (qI G (ty5 cI cJ cZ cO cA) A (wM cI cJ aM row tot tab goa bes tic txt par sav bwh bpr bse len mat ask hh ++ ([] : va_W)) res) ([.ref (aM 0)] : List Value).toArray s 0 0 A) (F0 m 42 ls []) := by
    intro x1 H locs ls e1 hP hD hS hl
    replace e1 := e1.symm
    subst e1
    refine lv_iload_n hx hb dX5_firedSet_42 rfl (lv_at hl 0 rfl) ?_
    rw [← Option.some.inj h]
    exact kri hx hb hr hlk rfl rfl hP hD hS hK dX5_firedSet_43
  have hL1 : ∀ (n : Nat) (z1 : Int32 × Int32) (H : Heap) (locs : List Loc) (ls : Array Slot), lp (f_X5_firedSet_b4 row) n z1 = some q1 → va_P G vwCl (wM cI cJ aM row tot tab goa bes tic txt par sav bwh bpr bse len mat ask hh ++ ([] : va_W)) H → va_D A (wM cI cJ aM row tot tab goa bes tic txt par sav bwh bpr bse len mat ask hh ++ ([] : va_W)) → va_S A s.heap H locs → lv_has ls 3 [(0, .ref (aM 0)), (1, .int z1.1), (2, .int z1.2)] → W p l ev ({ frames := 0, cells := 0, slots := 0, locals := 0 } : Room) s m ([.ref (aM 0)] : List Value).toArray below meth c H locs 0 0 (MQ below (qI G (ty5 cI cJ cZ cO cA) A (wM cI cJ aM row tot tab goa bes tic txt par sav bwh bpr bse len mat ask hh ++ ([] : va_W)) res) ([.ref (aM 0)] : List Value).toArray s 0 0 A) (F0 m 4 ls []) := by
    intro n
    induction n with
    | zero => intro z1 H locs ls h; cases h
    | succ n ih1 =>
      intro z1 H locs ls h hP hD hS hl
      obtain ⟨o1, h, h1⟩ := lp_s h
      unfold f_X5_firedSet_b4 at h
      refine lv_iload_n hx hb dX5_firedSet_4 rfl (lv_at hl 2 rfl) ?_
      refine lv_aload_n hx hb dX5_firedSet_5 rfl (lv_at hl 0 rfl) ?_
      refine va_get (D := G) (ci := 5) (v := .ref (aM 1)) (C := RX5) (T := TX5) (N := 16) hx hb hts uX5 hown hK hP 0 rfl rfl 0 (by decide) (hts _ kw579) (fun _ h9 => h9) rfl dX5_firedSet_6 ?_
      refine lv_iconst (v := 0) hx hb dX5_firedSet_9 (by decide) ?_
      obtain ⟨g2, h⟩ := gd_s h
      refine va_iald hx hb hK hP 1 0 rfl rfl (ib_in g2) dX5_firedSet_10 ?_
      refine lv_icmp_ge (tgt := 42) hx hb dX5_firedSet_11 (by decide) (fun c3 => ?_) (fun c3 => ?_)
      · replace h := (if_pos c3).symm.trans h
        rw [← Option.some.inj h] at h1
        exact hX1_0 z1.1 _ _ _ (lp_x h1) hP hD hS (lv_sub hl [1] rfl)
      · replace h := (if_neg c3).symm.trans h
        refine lv_iload_n hx hb dX5_firedSet_14 rfl (lv_at hl 1 rfl) ?_
        refine lv_aload_n hx hb dX5_firedSet_15 rfl (lv_at hl 0 rfl) ?_
        refine va_get (D := G) (ci := 5) (v := .ref (aM 1)) (C := RX5) (T := TX5) (N := 16) hx hb hts uX5 hown hK hP 0 rfl rfl 0 (by decide) (hts _ kw579) (fun _ h9 => h9) rfl dX5_firedSet_16 ?_
        refine lv_bipush (v := 108) hx hb dX5_firedSet_19 (by decide) ?_
        refine lv_iload_n hx hb dX5_firedSet_21 rfl (lv_at hl 2 rfl) ?_
        refine lv_iadd hx hb dX5_firedSet_22 ?_
        obtain ⟨g4, h⟩ := gd_s h
        refine va_iald hx hb hK hP 1 0 rfl rfl (ib_in g4) dX5_firedSet_23 ?_
        have hJ6 : ∀ (v2_6 : Int32) (t0_6 : Int32) (t1_6 : Int32) (H : Heap) (locs : List Loc) (ls : Array Slot), f_X5_firedSet_j34 v2_6 t0_6 t1_6 = some o1 → va_P G vwCl (wM cI cJ aM row tot tab goa bes tic txt par sav bwh bpr bse len mat ask hh ++ ([] : va_W)) H → va_D A (wM cI cJ aM row tot tab goa bes tic txt par sav bwh bpr bse len mat ask hh ++ ([] : va_W)) → va_S A s.heap H locs → lv_has ls 3 [(0, .ref (aM 0)), (2, .int v2_6)] → W p l ev ({ frames := 0, cells := 0, slots := 0, locals := 0 } : Room) s m ([.ref (aM 0)] : List Value).toArray below meth c H locs 0 0 (MQ below (qI G (ty5 cI cJ cZ cO cA) A (wM cI cJ aM row tot tab goa bes tic txt par sav bwh bpr bse len mat ask hh ++ ([] : va_W)) res) ([.ref (aM 0)] : List Value).toArray s 0 0 A) (F0 m 34 ls [.int t0_6, .int t1_6]) := by
          intro v2_6 t0_6 t1_6 H locs ls h hP hD hS hl
          unfold f_X5_firedSet_j34 at h
          refine lv_ior hx hb dX5_firedSet_34 ?_
          refine lv_istore_n (lv' := [(1, .int (t1_6 ||| t0_6)), (0, .ref (aM 0)), (2, .int v2_6)]) hx hb dX5_firedSet_35 rfl hl (by decide) rfl (fun ls hl => ?_)
          refine lv_iinc (v := (v2_6 + 1)) (lv' := [(2, .int (v2_6 + 1)), (1, .int (t1_6 ||| t0_6)), (0, .ref (aM 0))]) hx hb dX5_firedSet_36 hl (k := 2) rfl rfl (by decide) rfl (fun ls hl => ?_)
          refine lv_goto (tgt := 4) hx hb dX5_firedSet_39 (by decide) ?_
          rw [← Option.some.inj h] at h1
          exact ih1 ((t1_6 ||| t0_6), (v2_6 + 1)) _ _ _ (lp_b h1) hP hD hS (lv_sub hl [2, 1, 0] rfl)
        refine lv_if_le (tgt := 33) hx hb dX5_firedSet_24 (by decide) (fun c5 => ?_) (fun c5 => ?_)
        · replace h := (if_pos c5).symm.trans h
          refine lv_iconst (v := 0) hx hb dX5_firedSet_33 (by decide) ?_
          exact hJ6 z1.2 0 z1.1 _ _ _ h hP hD hS (lv_sub hl [0, 2] rfl)
        · replace h := (if_neg c5).symm.trans h
          refine lv_iconst (v := 1) hx hb dX5_firedSet_27 (by decide) ?_
          refine lv_iload_n hx hb dX5_firedSet_28 rfl (lv_at hl 2 rfl) ?_
          refine lv_ishl hx hb dX5_firedSet_29 ?_
          refine lv_goto (tgt := 34) hx hb dX5_firedSet_30 (by decide) ?_
          exact hJ6 z1.2 (1 <<< (z1.2 &&& 31)) z1.1 _ _ _ h hP hD hS (lv_sub hl [0, 2] rfl)
  exact hL1 _ (0, 0) _ _ _ hq1 hP hD hS (lv_sub hl [2, 1, 0] rfl)

/-! X5_cycle -/
def f_X5_cycle (row : Nat → Int32) (tot : Nat → Int64) (tab : Nat → Int64) (goa : Nat → Int64) (bes : Nat → Int64) (tic : Nat → Int64) (sav : Int32) (bwh : Int64) (bpr : Int64) (bse : Int32) : Option (Int32 × (Nat → Int32) × (Nat → Int64) × (Nat → Int64) × (Nat → Int64) × (Nat → Int64) × (Nat → Int64) × Int32 × Int64 × Int64 × Int32) :=
  (f_X5_saves row tot sav).bind (fun q1 => (f_X5_runs q1.1 q1.2.1 tab goa bes tic bwh bpr bse).bind (fun q2 => if q2.1 = 0 then (some ((-2000000000), q2.2.1, q2.2.2.1, q2.2.2.2.1, q2.2.2.2.2.1, q2.2.2.2.2.2.1, q2.2.2.2.2.2.2.1, q1.2.2, q2.2.2.2.2.2.2.2.1, q2.2.2.2.2.2.2.2.2.1, q2.2.2.2.2.2.2.2.2.2)) else ((f_X5_firedSet q2.2.1).bind (fun q4 => some (q4, q2.2.1, q2.2.2.1, q2.2.2.2.1, q2.2.2.2.2.1, q2.2.2.2.2.2.1, q2.2.2.2.2.2.2.1, q1.2.2, q2.2.2.2.2.2.2.2.1, q2.2.2.2.2.2.2.2.2.1, q2.2.2.2.2.2.2.2.2.2)))))

set_option maxHeartbeats 4000000 in
set_option maxRecDepth 100000 in
theorem c_X5_cycle (l : Launch) (G : va_G) (cI cJ cZ cO cA : ClassId) (e : Nat × Nat) (aM : Nat → Nat) (sz : Nat) (row : Nat → Int32) (tot : Nat → Int64) (tab : Nat → Int64) (goa : Nat → Int64) (bes : Nat → Int64) (tic : Nat → Int64) (txt : Nat → Int32) (par : Nat → Int32) (sav : Int32) (bwh : Int64) (bpr : Int64) (bse : Int32) (len : Int32) (mat : Int32) (ask : Int32) (hh : Int64) {res : Int32 × (Nat → Int32) × (Nat → Int64) × (Nat → Int64) × (Nat → Int64) × (Nat → Int64) × (Nat → Int64) × Int32 × Int64 × Int64 × Int32} (hf : f_X5_cycle row tot tab goa bes tic sav bwh bpr bse = some res) : MetI l yX5_cycle cX5_cycle 1 .int ({ frames := 8, cells := 0, slots := 0, locals := 192 } : Room) [.ref (aM 0)] G (ty5 cI cJ cZ cO cA) e (wM cI cJ aM row tot tab goa bes tic txt par sav bwh bpr bse len mat ask hh ++ ([] : va_W)) (wM cI cJ aM res.2.1 res.2.2.1 res.2.2.2.1 res.2.2.2.2.1 res.2.2.2.2.2.1 res.2.2.2.2.2.2.1 txt par res.2.2.2.2.2.2.2.1 res.2.2.2.2.2.2.2.2.1 res.2.2.2.2.2.2.2.2.2.1 res.2.2.2.2.2.2.2.2.2.2 len mat ask hh ++ ([] : va_W)) sz res.1 := by
  refine g_body (QQ := fun A => (qI G (ty5 cI cJ cZ cO cA) A (wM cI cJ aM res.2.1 res.2.2.1 res.2.2.2.1 res.2.2.2.2.1 res.2.2.2.2.2.1 res.2.2.2.2.2.2.1 txt par res.2.2.2.2.2.2.2.1 res.2.2.2.2.2.2.2.2.1 res.2.2.2.2.2.2.2.2.2.1 res.2.2.2.2.2.2.2.2.2.2 len mat ask hh ++ ([] : va_W)) res.1)) (own := RX5) (by decide) rfl (Nat.le_of_ble_eq_true rfl) ?_
  intro p ev s m below meth c A ls hx hb hr hml hown hts hlk hA hP hD hS hK hE hl
  have hl : lv_has ls 1 [(0, .ref (aM 0))] := hl
  show W p l ev ({ frames := 8, cells := 0, slots := 0, locals := 192 } : Room) s m ([.ref (aM 0)] : List Value).toArray below meth c s.heap [] 0 0 (MQ below (qI G (ty5 cI cJ cZ cO cA) A (wM cI cJ aM res.2.1 res.2.2.1 res.2.2.2.1 res.2.2.2.2.1 res.2.2.2.2.2.1 res.2.2.2.2.2.2.1 txt par res.2.2.2.2.2.2.2.1 res.2.2.2.2.2.2.2.2.1 res.2.2.2.2.2.2.2.2.2.1 res.2.2.2.2.2.2.2.2.2.2 len mat ask hh ++ ([] : va_W)) res.1) ([.ref (aM 0)] : List Value).toArray s 0 0 A) (F0 m 0 ls [])
  have h := hf
  unfold f_X5_cycle at h
  refine lv_aload_n hx hb dX5_cycle_0 rfl (lv_at hl 0 rfl) ?_
  obtain ⟨q1, hq1, h⟩ := bd_s h
  refine kVv (n := 0) (C := RX5) (ws' := wM cI cJ aM q1.1 q1.2.1 tab goa bes tic txt par q1.2.2 bwh bpr bse len mat ask hh ++ ([] : va_W)) (As := []) (rest := []) hx hb hml hown hts (c_X5_saves l G cI cJ cZ cO cA e aM _ row tot tab goa bes tic txt par sav bwh bpr bse len mat ask hh hq1) (tb_V kw641 kw643 kv14 kw7 kw644) rfl rfl (by decide +kernel) ⟨Nat.le_of_ble_eq_true rfl, Nat.le_of_ble_eq_true rfl⟩ hK hP hD hS hA hE 0 rfl rfl [0, 1, 2, 3, 4, 5, 6, 7, 8] [] rfl rfl rfl 9 ⟨rfl, rfl⟩ (by decide +kernel) (by decide +kernel) rfl rfl hl.1 (Nat.le_of_ble_eq_true rfl) ⟨Nat.zero_le _, Nat.zero_le _⟩ dX5_cycle_1 (fun H locs hP hD hS => ?_)
  refine lv_aload_n hx hb dX5_cycle_4 rfl (lv_at hl 0 rfl) ?_
  obtain ⟨q2, hq2, h⟩ := bd_s h
  refine kVi (n := 0) (C := RX5) (ws' := wM cI cJ aM q2.2.1 q2.2.2.1 q2.2.2.2.1 q2.2.2.2.2.1 q2.2.2.2.2.2.1 q2.2.2.2.2.2.2.1 txt par q1.2.2 q2.2.2.2.2.2.2.2.1 q2.2.2.2.2.2.2.2.2.1 q2.2.2.2.2.2.2.2.2.2 len mat ask hh ++ ([] : va_W)) (As := []) (rest := []) hx hb hml hown hts (c_X5_runs l G cI cJ cZ cO cA e aM _ q1.1 q1.2.1 tab goa bes tic txt par q1.2.2 bwh bpr bse len mat ask hh hq2) (tb_V kw827 kw829 kv36 kw7 kw830) rfl rfl (by decide +kernel) ⟨Nat.le_of_ble_eq_true rfl, Nat.le_of_ble_eq_true rfl⟩ hK hP hD hS hA hE 0 rfl rfl [0, 1, 2, 3, 4, 5, 6, 7, 8] [] rfl rfl rfl 9 ⟨rfl, rfl⟩ (by decide +kernel) (by decide +kernel) rfl rfl hl.1 (Nat.le_of_ble_eq_true rfl) ⟨Nat.zero_le _, Nat.zero_le _⟩ dX5_cycle_5 (fun H locs hP hD hS => ?_)
  refine lv_if_eq (tgt := 18) hx hb dX5_cycle_8 (by decide) (fun c3 => ?_) (fun c3 => ?_)
  · replace h := (if_pos c3).symm.trans h
    refine lv_ldc (v := (-2000000000)) hx hb hown (hts _ kw769) dX5_cycle_18 ?_
    rw [← Option.some.inj h]
    exact kri hx hb hr hlk rfl rfl hP hD hS hK dX5_cycle_20
  · replace h := (if_neg c3).symm.trans h
    refine lv_aload_n hx hb dX5_cycle_11 rfl (lv_at hl 0 rfl) ?_
    obtain ⟨q4, hq4, h⟩ := bd_s h
    refine kVi (n := 0) (C := RX5) (ws' := wM cI cJ aM q2.2.1 q2.2.2.1 q2.2.2.2.1 q2.2.2.2.2.1 q2.2.2.2.2.2.1 q2.2.2.2.2.2.2.1 txt par q1.2.2 q2.2.2.2.2.2.2.2.1 q2.2.2.2.2.2.2.2.2.1 q2.2.2.2.2.2.2.2.2.2 len mat ask hh ++ ([] : va_W)) (As := []) (rest := []) hx hb hml hown hts (c_X5_firedSet l G cI cJ cZ cO cA e aM _ q2.2.1 q2.2.2.1 q2.2.2.2.1 q2.2.2.2.2.1 q2.2.2.2.2.2.1 q2.2.2.2.2.2.2.1 txt par q1.2.2 q2.2.2.2.2.2.2.2.1 q2.2.2.2.2.2.2.2.2.1 q2.2.2.2.2.2.2.2.2.2 len mat ask hh hq4) (tb_V kw834 kw836 kv37 kw7 kw837) rfl rfl (by decide +kernel) ⟨Nat.le_of_ble_eq_true rfl, Nat.le_of_ble_eq_true rfl⟩ hK hP hD hS hA hE 0 rfl rfl [0, 1, 2, 3, 4, 5, 6, 7, 8] [] rfl rfl rfl 9 ⟨rfl, rfl⟩ (by decide +kernel) (by decide +kernel) rfl rfl hl.1 (Nat.le_of_ble_eq_true rfl) ⟨Nat.zero_le _, Nat.zero_le _⟩ dX5_cycle_12 (fun H locs hP hD hS => ?_)
    refine lv_goto (tgt := 20) hx hb dX5_cycle_15 (by decide) ?_
    rw [← Option.some.inj h]
    exact kri hx hb hr hlk rfl rfl hP hD hS hK dX5_cycle_20

/-! X5_cycles -/
def f_X5_cycles_j39 (row : Nat → Int32) (tot : Nat → Int64) (tab : Nat → Int64) (goa : Nat → Int64) (bes : Nat → Int64) (tic : Nat → Int64) (bwh : Int64) (bpr : Int64) (bse : Int32) (v3 : Int32) (t0 : Int32) (t1 : Int32) : Option (((Nat → Int32) × (Nat → Int64) × (Nat → Int64) × (Nat → Int64) × (Nat → Int64) × (Nat → Int64) × Int64 × Int64 × Int32 × Int32 × Int32) ⊕ ((Nat → Int32) × (Nat → Int64) × (Nat → Int64) × (Nat → Int64) × (Nat → Int64) × (Nat → Int64) × Int64 × Int64 × Int32 × Int32)) :=
  some (Sum.inl (row, tot, tab, goa, bes, tic, bwh, bpr, bse, (t1 + t0), (v3 + 1)))
def f_X5_cycles_b21 (v1 : Int32) (z4 : (Nat → Int32) × (Nat → Int64) × (Nat → Int64) × (Nat → Int64) × (Nat → Int64) × (Nat → Int64) × Int64 × Int64 × Int32 × Int32 × Int32) : Option (((Nat → Int32) × (Nat → Int64) × (Nat → Int64) × (Nat → Int64) × (Nat → Int64) × (Nat → Int64) × Int64 × Int64 × Int32 × Int32 × Int32) ⊕ ((Nat → Int32) × (Nat → Int64) × (Nat → Int64) × (Nat → Int64) × (Nat → Int64) × (Nat → Int64) × Int64 × Int64 × Int32 × Int32)) :=
  if v1 ≤ z4.2.2.2.2.2.2.2.2.2.2 then (some (Sum.inr (z4.1, z4.2.1, z4.2.2.1, z4.2.2.2.1, z4.2.2.2.2.1, z4.2.2.2.2.2.1, z4.2.2.2.2.2.2.1, z4.2.2.2.2.2.2.2.1, z4.2.2.2.2.2.2.2.2.1, z4.2.2.2.2.2.2.2.2.2.1))) else ((f_X5_runs z4.1 z4.2.1 z4.2.2.1 z4.2.2.2.1 z4.2.2.2.2.1 z4.2.2.2.2.2.1 z4.2.2.2.2.2.2.1 z4.2.2.2.2.2.2.2.1 z4.2.2.2.2.2.2.2.2.1).bind (fun q6 => if q6.1 = 0 then (f_X5_cycles_j39 q6.2.1 q6.2.2.1 q6.2.2.2.1 q6.2.2.2.2.1 q6.2.2.2.2.2.1 q6.2.2.2.2.2.2.1 q6.2.2.2.2.2.2.2.1 q6.2.2.2.2.2.2.2.2.1 q6.2.2.2.2.2.2.2.2.2 z4.2.2.2.2.2.2.2.2.2.2 0 z4.2.2.2.2.2.2.2.2.2.1) else (f_X5_cycles_j39 q6.2.1 q6.2.2.1 q6.2.2.2.1 q6.2.2.2.2.1 q6.2.2.2.2.2.1 q6.2.2.2.2.2.2.1 q6.2.2.2.2.2.2.2.1 q6.2.2.2.2.2.2.2.2.1 q6.2.2.2.2.2.2.2.2.2 z4.2.2.2.2.2.2.2.2.2.2 1 z4.2.2.2.2.2.2.2.2.2.1)))
def f_X5_cycles (row : Nat → Int32) (tot : Nat → Int64) (tab : Nat → Int64) (goa : Nat → Int64) (bes : Nat → Int64) (tic : Nat → Int64) (sav : Int32) (bwh : Int64) (bpr : Int64) (bse : Int32) (p0 : Int32) : Option (Int32 × (Nat → Int32) × (Nat → Int64) × (Nat → Int64) × (Nat → Int64) × (Nat → Int64) × (Nat → Int64) × Int32 × Int64 × Int64 × Int32) :=
  (f_X5_in p0 1 20).bind (fun q1 => if q1 = 0 then (some ((-2000000002), row, tot, tab, goa, bes, tic, sav, bwh, bpr, bse)) else ((f_X5_saves row tot sav).bind (fun q3 => (lp (f_X5_cycles_b21 p0) 1000 (q3.1, q3.2.1, tab, goa, bes, tic, bwh, bpr, bse, 0, 0)).bind (fun q4 => some (q4.2.2.2.2.2.2.2.2.2, q4.1, q4.2.1, q4.2.2.1, q4.2.2.2.1, q4.2.2.2.2.1, q4.2.2.2.2.2.1, q3.2.2, q4.2.2.2.2.2.2.1, q4.2.2.2.2.2.2.2.1, q4.2.2.2.2.2.2.2.2.1)))))

set_option maxHeartbeats 4000000 in
set_option maxRecDepth 100000 in
theorem c_X5_cycles (l : Launch) (G : va_G) (cI cJ cZ cO cA : ClassId) (e : Nat × Nat) (aM : Nat → Nat) (sz : Nat) (row : Nat → Int32) (tot : Nat → Int64) (tab : Nat → Int64) (goa : Nat → Int64) (bes : Nat → Int64) (tic : Nat → Int64) (txt : Nat → Int32) (par : Nat → Int32) (sav : Int32) (bwh : Int64) (bpr : Int64) (bse : Int32) (len : Int32) (mat : Int32) (ask : Int32) (hh : Int64) (p0 : Int32) {res : Int32 × (Nat → Int32) × (Nat → Int64) × (Nat → Int64) × (Nat → Int64) × (Nat → Int64) × (Nat → Int64) × Int32 × Int64 × Int64 × Int32} (hf : f_X5_cycles row tot tab goa bes tic sav bwh bpr bse p0 = some res) : MetI l yX5_cycles cX5_cycles 4 .int ({ frames := 8, cells := 0, slots := 0, locals := 192 } : Room) [.ref (aM 0), .int p0] G (ty5 cI cJ cZ cO cA) e (wM cI cJ aM row tot tab goa bes tic txt par sav bwh bpr bse len mat ask hh ++ ([] : va_W)) (wM cI cJ aM res.2.1 res.2.2.1 res.2.2.2.1 res.2.2.2.2.1 res.2.2.2.2.2.1 res.2.2.2.2.2.2.1 txt par res.2.2.2.2.2.2.2.1 res.2.2.2.2.2.2.2.2.1 res.2.2.2.2.2.2.2.2.2.1 res.2.2.2.2.2.2.2.2.2.2 len mat ask hh ++ ([] : va_W)) sz res.1 := by
  refine g_body (QQ := fun A => (qI G (ty5 cI cJ cZ cO cA) A (wM cI cJ aM res.2.1 res.2.2.1 res.2.2.2.1 res.2.2.2.2.1 res.2.2.2.2.2.1 res.2.2.2.2.2.2.1 txt par res.2.2.2.2.2.2.2.1 res.2.2.2.2.2.2.2.2.1 res.2.2.2.2.2.2.2.2.2.1 res.2.2.2.2.2.2.2.2.2.2 len mat ask hh ++ ([] : va_W)) res.1)) (own := RX5) (by decide) rfl (Nat.le_of_ble_eq_true rfl) ?_
  intro p ev s m below meth c A ls hx hb hr hml hown hts hlk hA hP hD hS hK hE hl
  have hl : lv_has ls 4 [(0, .ref (aM 0)), (1, .int p0)] := hl
  show W p l ev ({ frames := 8, cells := 0, slots := 0, locals := 192 } : Room) s m ([.ref (aM 0), .int p0] : List Value).toArray below meth c s.heap [] 0 0 (MQ below (qI G (ty5 cI cJ cZ cO cA) A (wM cI cJ aM res.2.1 res.2.2.1 res.2.2.2.1 res.2.2.2.2.1 res.2.2.2.2.2.1 res.2.2.2.2.2.2.1 txt par res.2.2.2.2.2.2.2.1 res.2.2.2.2.2.2.2.2.1 res.2.2.2.2.2.2.2.2.2.1 res.2.2.2.2.2.2.2.2.2.2 len mat ask hh ++ ([] : va_W)) res.1) ([.ref (aM 0), .int p0] : List Value).toArray s 0 0 A) (F0 m 0 ls [])
  have h := hf
  unfold f_X5_cycles at h
  refine lv_iload_n hx hb dX5_cycles_0 rfl (lv_at hl 1 rfl) ?_
  refine lv_iconst (v := 1) hx hb dX5_cycles_1 (by decide) ?_
  refine lv_bipush (v := 20) hx hb dX5_cycles_2 (by decide) ?_
  obtain ⟨q1, hq1, h⟩ := bd_s h
  refine kSi (n := 3) (As := [.int p0, .int 1, .int 20]) (rest := []) hx hb hml hown hts (c_X5_in l G cI cJ cZ cO cA e _ p0 1 20 hq1) (tb_S kw635 kw636 kw7 kw637) rfl rfl (by decide +kernel) ⟨Nat.le_of_ble_eq_true rfl, Nat.le_of_ble_eq_true rfl⟩ hK hP hD hS hA hE rfl rfl hl.1 (Nat.le_of_ble_eq_true rfl) ⟨Nat.zero_le _, Nat.zero_le _⟩ dX5_cycles_4 (fun H locs hP hD hS => ?_)
  refine lv_if_ne (tgt := 13) hx hb dX5_cycles_7 (by decide) (fun c2 => ?_) (fun c2 => ?_)
  · replace h := (if_neg c2).symm.trans h
    refine lv_aload_n hx hb dX5_cycles_13 rfl (lv_at hl 0 rfl) ?_
    obtain ⟨q3, hq3, h⟩ := bd_s h
    refine kVv (n := 0) (C := RX5) (ws' := wM cI cJ aM q3.1 q3.2.1 tab goa bes tic txt par q3.2.2 bwh bpr bse len mat ask hh ++ ([] : va_W)) (As := []) (rest := []) hx hb hml hown hts (c_X5_saves l G cI cJ cZ cO cA e aM _ row tot tab goa bes tic txt par sav bwh bpr bse len mat ask hh hq3) (tb_V kw641 kw643 kv14 kw7 kw644) rfl rfl (by decide +kernel) ⟨Nat.le_of_ble_eq_true rfl, Nat.le_of_ble_eq_true rfl⟩ hK hP hD hS hA hE 0 rfl rfl [0, 1, 2, 3, 4, 5, 6, 7, 8] [] rfl rfl rfl 9 ⟨rfl, rfl⟩ (by decide +kernel) (by decide +kernel) rfl rfl hl.1 (Nat.le_of_ble_eq_true rfl) ⟨Nat.zero_le _, Nat.zero_le _⟩ dX5_cycles_14 (fun H locs hP hD hS => ?_)
    refine lv_iconst (v := 0) hx hb dX5_cycles_17 (by decide) ?_
    refine lv_istore_n (lv' := [(2, .int 0), (0, .ref (aM 0)), (1, .int p0)]) hx hb dX5_cycles_18 rfl hl (by decide) rfl (fun ls hl => ?_)
    refine lv_iconst (v := 0) hx hb dX5_cycles_19 (by decide) ?_
    refine lv_istore_n (lv' := [(3, .int 0), (2, .int 0), (0, .ref (aM 0)), (1, .int p0)]) hx hb dX5_cycles_20 rfl hl (by decide) rfl (fun ls hl => ?_)
    obtain ⟨q4, hq4, h⟩ := bd_s h
    have hX4_0 : ∀ (x4 : (Nat → Int32) × (Nat → Int64) × (Nat → Int64) × (Nat → Int64) × (Nat → Int64) × (Nat → Int64) × Int64 × Int64 × Int32 × Int32) (H : Heap) (locs : List Loc) (ls : Array Slot), x4 = q4 → va_P G vwCl (wM cI cJ aM x4.1 x4.2.1 x4.2.2.1 x4.2.2.2.1 x4.2.2.2.2.1 x4.2.2.2.2.2.1 txt par q3.2.2 x4.2.2.2.2.2.2.1 x4.2.2.2.2.2.2.2.1 x4.2.2.2.2.2.2.2.2.1 len mat ask hh ++ ([] : va_W)) H → va_D A (wM cI cJ aM x4.1 x4.2.1 x4.2.2.1 x4.2.2.2.1 x4.2.2.2.2.1 x4.2.2.2.2.2.1 txt par q3.2.2 x4.2.2.2.2.2.2.1 x4.2.2.2.2.2.2.2.1 x4.2.2.2.2.2.2.2.2.1 len mat ask hh ++ ([] : va_W)) → va_S A s.heap H locs → lv_has ls 4 [(2, .int x4.2.2.2.2.2.2.2.2.2)] → W p l ev ({ frames := 8, cells := 0, slots := 0, locals := 192 } : Room) s m ([.ref (aM 0), .int p0] : List Value).toArray below meth c H locs 0 0 (MQ below (qI G (ty5 cI cJ cZ cO cA) A (wM cI cJ aM res.2.1 res.2.2.1 res.2.2.2.1 res.2.2.2.2.1 res.2.2.2.2.2.1 res.2.2.2.2.2.2.1 txt par res.2.2.2.2.2.2.2.1 res.2.2.2.2.2.2.2.2.1 res.2.2.2.2.2.2.2.2.2.1 res.2.2.2.2.2.2.2.2.2.2 len mat ask hh ++ ([] : va_W)) res.1) ([.ref (aM 0), .int p0] : List Value).toArray s 0 0 A) (F0 m 47 ls []) := by
      intro x4 H locs ls e4 hP hD hS hl
      replace e4 := e4.symm
      subst e4
      refine lv_iload_n hx hb dX5_cycles_47 rfl (lv_at hl 0 rfl) ?_
      rw [← Option.some.inj h]
      exact kri hx hb hr hlk rfl rfl hP hD hS hK dX5_cycles_48
    have hL4 : ∀ (n : Nat) (z4 : (Nat → Int32) × (Nat → Int64) × (Nat → Int64) × (Nat → Int64) × (Nat → Int64) × (Nat → Int64) × Int64 × Int64 × Int32 × Int32 × Int32) (H : Heap) (locs : List Loc) (ls : Array Slot), lp (f_X5_cycles_b21 p0) n z4 = some q4 → va_P G vwCl (wM cI cJ aM z4.1 z4.2.1 z4.2.2.1 z4.2.2.2.1 z4.2.2.2.2.1 z4.2.2.2.2.2.1 txt par q3.2.2 z4.2.2.2.2.2.2.1 z4.2.2.2.2.2.2.2.1 z4.2.2.2.2.2.2.2.2.1 len mat ask hh ++ ([] : va_W)) H → va_D A (wM cI cJ aM z4.1 z4.2.1 z4.2.2.1 z4.2.2.2.1 z4.2.2.2.2.1 z4.2.2.2.2.2.1 txt par q3.2.2 z4.2.2.2.2.2.2.1 z4.2.2.2.2.2.2.2.1 z4.2.2.2.2.2.2.2.2.1 len mat ask hh ++ ([] : va_W)) → va_S A s.heap H locs → lv_has ls 4 [(0, .ref (aM 0)), (1, .int p0), (2, .int z4.2.2.2.2.2.2.2.2.2.1), (3, .int z4.2.2.2.2.2.2.2.2.2.2)] → W p l ev ({ frames := 8, cells := 0, slots := 0, locals := 192 } : Room) s m ([.ref (aM 0), .int p0] : List Value).toArray below meth c H locs 0 0 (MQ below (qI G (ty5 cI cJ cZ cO cA) A (wM cI cJ aM res.2.1 res.2.2.1 res.2.2.2.1 res.2.2.2.2.1 res.2.2.2.2.2.1 res.2.2.2.2.2.2.1 txt par res.2.2.2.2.2.2.2.1 res.2.2.2.2.2.2.2.2.1 res.2.2.2.2.2.2.2.2.2.1 res.2.2.2.2.2.2.2.2.2.2 len mat ask hh ++ ([] : va_W)) res.1) ([.ref (aM 0), .int p0] : List Value).toArray s 0 0 A) (F0 m 21 ls []) := by
      intro n
      induction n with
      | zero => intro z4 H locs ls h; cases h
      | succ n ih4 =>
        intro z4 H locs ls h hP hD hS hl
        obtain ⟨o4, h, h4⟩ := lp_s h
        unfold f_X5_cycles_b21 at h
        refine lv_iload_n hx hb dX5_cycles_21 rfl (lv_at hl 3 rfl) ?_
        refine lv_iload_n hx hb dX5_cycles_22 rfl (lv_at hl 1 rfl) ?_
        refine lv_icmp_ge (tgt := 47) hx hb dX5_cycles_23 (by decide) (fun c5 => ?_) (fun c5 => ?_)
        · replace h := (if_pos c5).symm.trans h
          rw [← Option.some.inj h] at h4
          exact hX4_0 (z4.1, z4.2.1, z4.2.2.1, z4.2.2.2.1, z4.2.2.2.2.1, z4.2.2.2.2.2.1, z4.2.2.2.2.2.2.1, z4.2.2.2.2.2.2.2.1, z4.2.2.2.2.2.2.2.2.1, z4.2.2.2.2.2.2.2.2.2.1) _ _ _ (lp_x h4) hP hD hS (lv_sub hl [2] rfl)
        · replace h := (if_neg c5).symm.trans h
          refine lv_iload_n hx hb dX5_cycles_26 rfl (lv_at hl 2 rfl) ?_
          refine lv_aload_n hx hb dX5_cycles_27 rfl (lv_at hl 0 rfl) ?_
          obtain ⟨q6, hq6, h⟩ := bd_s h
          refine kVi (n := 0) (C := RX5) (ws' := wM cI cJ aM q6.2.1 q6.2.2.1 q6.2.2.2.1 q6.2.2.2.2.1 q6.2.2.2.2.2.1 q6.2.2.2.2.2.2.1 txt par q3.2.2 q6.2.2.2.2.2.2.2.1 q6.2.2.2.2.2.2.2.2.1 q6.2.2.2.2.2.2.2.2.2 len mat ask hh ++ ([] : va_W)) (As := []) (rest := [.int z4.2.2.2.2.2.2.2.2.2.1]) hx hb hml hown hts (c_X5_runs l G cI cJ cZ cO cA e aM _ z4.1 z4.2.1 z4.2.2.1 z4.2.2.2.1 z4.2.2.2.2.1 z4.2.2.2.2.2.1 txt par q3.2.2 z4.2.2.2.2.2.2.1 z4.2.2.2.2.2.2.2.1 z4.2.2.2.2.2.2.2.2.1 len mat ask hh hq6) (tb_V kw827 kw829 kv36 kw7 kw830) rfl rfl (by decide +kernel) ⟨Nat.le_of_ble_eq_true rfl, Nat.le_of_ble_eq_true rfl⟩ hK hP hD hS hA hE 0 rfl rfl [0, 1, 2, 3, 4, 5, 6, 7, 8] [] rfl rfl rfl 9 ⟨rfl, rfl⟩ (by decide +kernel) (by decide +kernel) rfl rfl hl.1 (Nat.le_of_ble_eq_true rfl) ⟨Nat.zero_le _, Nat.zero_le _⟩ dX5_cycles_28 (fun H locs hP hD hS => ?_)
          have hJ8 : ∀ (row_8 : Nat → Int32) (tot_8 : Nat → Int64) (tab_8 : Nat → Int64) (goa_8 : Nat → Int64) (bes_8 : Nat → Int64) (tic_8 : Nat → Int64) (bwh_8 : Int64) (bpr_8 : Int64) (bse_8 : Int32) (v3_8 : Int32) (t0_8 : Int32) (t1_8 : Int32) (H : Heap) (locs : List Loc) (ls : Array Slot), f_X5_cycles_j39 row_8 tot_8 tab_8 goa_8 bes_8 tic_8 bwh_8 bpr_8 bse_8 v3_8 t0_8 t1_8 = some o4 → va_P G vwCl (wM cI cJ aM row_8 tot_8 tab_8 goa_8 bes_8 tic_8 txt par q3.2.2 bwh_8 bpr_8 bse_8 len mat ask hh ++ ([] : va_W)) H → va_D A (wM cI cJ aM row_8 tot_8 tab_8 goa_8 bes_8 tic_8 txt par q3.2.2 bwh_8 bpr_8 bse_8 len mat ask hh ++ ([] : va_W)) → va_S A s.heap H locs → lv_has ls 4 [(0, .ref (aM 0)), (1, .int p0), (3, .int v3_8)] → W p l ev ({ frames := 8, cells := 0, slots := 0, locals := 192 } : Room) s m ([.ref (aM 0), .int p0] : List Value).toArray below meth c H locs 0 0 (MQ below (qI G (ty5 cI cJ cZ cO cA) A (wM cI cJ aM res.2.1 res.2.2.1 res.2.2.2.1 res.2.2.2.2.1 res.2.2.2.2.2.1 res.2.2.2.2.2.2.1 txt par res.2.2.2.2.2.2.2.1 res.2.2.2.2.2.2.2.2.1 res.2.2.2.2.2.2.2.2.2.1 res.2.2.2.2.2.2.2.2.2.2 len mat ask hh ++ ([] : va_W)) res.1) ([.ref (aM 0), .int p0] : List Value).toArray s 0 0 A) (F0 m 39 ls [.int t0_8, .int t1_8]) := by
            intro row_8 tot_8 tab_8 goa_8 bes_8 tic_8 bwh_8 bpr_8 bse_8 v3_8 t0_8 t1_8 H locs ls h hP hD hS hl
            unfold f_X5_cycles_j39 at h
            refine lv_iadd hx hb dX5_cycles_39 ?_
            refine lv_istore_n (lv' := [(2, .int (t1_8 + t0_8)), (0, .ref (aM 0)), (1, .int p0), (3, .int v3_8)]) hx hb dX5_cycles_40 rfl hl (by decide) rfl (fun ls hl => ?_)
            refine lv_iinc (v := (v3_8 + 1)) (lv' := [(3, .int (v3_8 + 1)), (2, .int (t1_8 + t0_8)), (0, .ref (aM 0)), (1, .int p0)]) hx hb dX5_cycles_41 hl (k := 3) rfl rfl (by decide) rfl (fun ls hl => ?_)
            refine lv_goto (tgt := 21) hx hb dX5_cycles_44 (by decide) ?_
            rw [← Option.some.inj h] at h4
            exact ih4 (row_8, tot_8, tab_8, goa_8, bes_8, tic_8, bwh_8, bpr_8, bse_8, (t1_8 + t0_8), (v3_8 + 1)) _ _ _ (lp_b h4) hP hD hS (lv_sub hl [2, 3, 1, 0] rfl)
          refine lv_if_eq (tgt := 38) hx hb dX5_cycles_31 (by decide) (fun c7 => ?_) (fun c7 => ?_)
          · replace h := (if_pos c7).symm.trans h
            refine lv_iconst (v := 0) hx hb dX5_cycles_38 (by decide) ?_
            exact hJ8 q6.2.1 q6.2.2.1 q6.2.2.2.1 q6.2.2.2.2.1 q6.2.2.2.2.2.1 q6.2.2.2.2.2.2.1 q6.2.2.2.2.2.2.2.1 q6.2.2.2.2.2.2.2.2.1 q6.2.2.2.2.2.2.2.2.2 z4.2.2.2.2.2.2.2.2.2.2 0 z4.2.2.2.2.2.2.2.2.2.1 _ _ _ h hP hD hS (lv_sub hl [0, 1, 3] rfl)
          · replace h := (if_neg c7).symm.trans h
            refine lv_iconst (v := 1) hx hb dX5_cycles_34 (by decide) ?_
            refine lv_goto (tgt := 39) hx hb dX5_cycles_35 (by decide) ?_
            exact hJ8 q6.2.1 q6.2.2.1 q6.2.2.2.1 q6.2.2.2.2.1 q6.2.2.2.2.2.1 q6.2.2.2.2.2.2.1 q6.2.2.2.2.2.2.2.1 q6.2.2.2.2.2.2.2.2.1 q6.2.2.2.2.2.2.2.2.2 z4.2.2.2.2.2.2.2.2.2.2 1 z4.2.2.2.2.2.2.2.2.2.1 _ _ _ h hP hD hS (lv_sub hl [0, 1, 3] rfl)
    exact hL4 _ (q3.1, q3.2.1, tab, goa, bes, tic, bwh, bpr, bse, 0, 0) _ _ _ hq4 hP hD hS (lv_sub hl [2, 3, 1, 0] rfl)
  · replace h := (if_pos c2).symm.trans h
    refine lv_ldc (v := (-2000000002)) hx hb hown (hts _ kw639) dX5_cycles_10 ?_
    rw [← Option.some.inj h]
    exact kri hx hb hr hlk rfl rfl hP hD hS hK dX5_cycles_12

/-! X5_cycleCount -/
def f_X5_cycleCount (row : Nat → Int32) : Option (Int32) :=
  gd (ib 117 708) (some (row (117 : Int32).toNatClampNeg))

set_option maxHeartbeats 4000000 in
set_option maxRecDepth 100000 in
theorem c_X5_cycleCount (l : Launch) (G : va_G) (cI cJ cZ cO cA : ClassId) (e : Nat × Nat) (aM : Nat → Nat) (sz : Nat) (row : Nat → Int32) (tot : Nat → Int64) (tab : Nat → Int64) (goa : Nat → Int64) (bes : Nat → Int64) (tic : Nat → Int64) (txt : Nat → Int32) (par : Nat → Int32) (sav : Int32) (bwh : Int64) (bpr : Int64) (bse : Int32) (len : Int32) (mat : Int32) (ask : Int32) (hh : Int64) {res : Int32} (hf : f_X5_cycleCount row = some res) : MetI l yX5_cycleCount cX5_cycleCount 1 .int ({ frames := 0, cells := 0, slots := 0, locals := 0 } : Room) [.ref (aM 0)] G (ty5 cI cJ cZ cO cA) e (wM cI cJ aM row tot tab goa bes tic txt par sav bwh bpr bse len mat ask hh ++ ([] : va_W)) (wM cI cJ aM row tot tab goa bes tic txt par sav bwh bpr bse len mat ask hh ++ ([] : va_W)) sz res := by
  refine g_body (QQ := fun A => (qI G (ty5 cI cJ cZ cO cA) A (wM cI cJ aM row tot tab goa bes tic txt par sav bwh bpr bse len mat ask hh ++ ([] : va_W)) res)) (own := RX5) (by decide) rfl (Nat.le_of_ble_eq_true rfl) ?_
  intro p ev s m below meth c A ls hx hb hr hml hown hts hlk hA hP hD hS hK hE hl
  have hl : lv_has ls 1 [(0, .ref (aM 0))] := hl
  show W p l ev ({ frames := 0, cells := 0, slots := 0, locals := 0 } : Room) s m ([.ref (aM 0)] : List Value).toArray below meth c s.heap [] 0 0 (MQ below (qI G (ty5 cI cJ cZ cO cA) A (wM cI cJ aM row tot tab goa bes tic txt par sav bwh bpr bse len mat ask hh ++ ([] : va_W)) res) ([.ref (aM 0)] : List Value).toArray s 0 0 A) (F0 m 0 ls [])
  have h := hf
  unfold f_X5_cycleCount at h
  refine lv_aload_n hx hb dX5_cycleCount_0 rfl (lv_at hl 0 rfl) ?_
  refine va_get (D := G) (ci := 5) (v := .ref (aM 1)) (C := RX5) (T := TX5) (N := 16) hx hb hts uX5 hown hK hP 0 rfl rfl 0 (by decide) (hts _ kw579) (fun _ h9 => h9) rfl dX5_cycleCount_1 ?_
  refine lv_bipush (v := 117) hx hb dX5_cycleCount_4 (by decide) ?_
  obtain ⟨g1, h⟩ := gd_s h
  refine va_iald hx hb hK hP 1 0 rfl rfl (ib_in g1) dX5_cycleCount_6 ?_
  rw [← Option.some.inj h]
  exact kri hx hb hr hlk rfl rfl hP hD hS hK dX5_cycleCount_7

/-! X5_fired -/
def f_X5_fired (row : Nat → Int32) (p0 : Int32) : Option (Int32) :=
  (f_X5_isThruster row p0).bind (fun q1 => if q1 = 0 then (some (-2000000001)) else (gd (ib (108 + p0) 708) (some (row (108 + p0).toNatClampNeg))))

set_option maxHeartbeats 4000000 in
set_option maxRecDepth 100000 in
theorem c_X5_fired (l : Launch) (G : va_G) (cI cJ cZ cO cA : ClassId) (e : Nat × Nat) (aM : Nat → Nat) (sz : Nat) (row : Nat → Int32) (tot : Nat → Int64) (tab : Nat → Int64) (goa : Nat → Int64) (bes : Nat → Int64) (tic : Nat → Int64) (txt : Nat → Int32) (par : Nat → Int32) (sav : Int32) (bwh : Int64) (bpr : Int64) (bse : Int32) (len : Int32) (mat : Int32) (ask : Int32) (hh : Int64) (p0 : Int32) {res : Int32} (hf : f_X5_fired row p0 = some res) : MetI l yX5_fired cX5_fired 2 .int ({ frames := 2, cells := 0, slots := 0, locals := 43 } : Room) [.ref (aM 0), .int p0] G (ty5 cI cJ cZ cO cA) e (wM cI cJ aM row tot tab goa bes tic txt par sav bwh bpr bse len mat ask hh ++ ([] : va_W)) (wM cI cJ aM row tot tab goa bes tic txt par sav bwh bpr bse len mat ask hh ++ ([] : va_W)) sz res := by
  refine g_body (QQ := fun A => (qI G (ty5 cI cJ cZ cO cA) A (wM cI cJ aM row tot tab goa bes tic txt par sav bwh bpr bse len mat ask hh ++ ([] : va_W)) res)) (own := RX5) (by decide) rfl (Nat.le_of_ble_eq_true rfl) ?_
  intro p ev s m below meth c A ls hx hb hr hml hown hts hlk hA hP hD hS hK hE hl
  have hl : lv_has ls 2 [(0, .ref (aM 0)), (1, .int p0)] := hl
  show W p l ev ({ frames := 2, cells := 0, slots := 0, locals := 43 } : Room) s m ([.ref (aM 0), .int p0] : List Value).toArray below meth c s.heap [] 0 0 (MQ below (qI G (ty5 cI cJ cZ cO cA) A (wM cI cJ aM row tot tab goa bes tic txt par sav bwh bpr bse len mat ask hh ++ ([] : va_W)) res) ([.ref (aM 0), .int p0] : List Value).toArray s 0 0 A) (F0 m 0 ls [])
  have h := hf
  unfold f_X5_fired at h
  refine lv_aload_n hx hb dX5_fired_0 rfl (lv_at hl 0 rfl) ?_
  refine lv_iload_n hx hb dX5_fired_1 rfl (lv_at hl 1 rfl) ?_
  obtain ⟨q1, hq1, h⟩ := bd_s h
  refine kVi (n := 1) (C := RX5) (ws' := wM cI cJ aM row tot tab goa bes tic txt par sav bwh bpr bse len mat ask hh ++ ([] : va_W)) (As := [.int p0]) (rest := []) hx hb hml hown hts (c_X5_isThruster l G cI cJ cZ cO cA e aM _ row tot tab goa bes tic txt par sav bwh bpr bse len mat ask hh p0 hq1) (tb_V kw653 kw655 kv16 kw7 kw656) rfl rfl (by decide +kernel) ⟨Nat.le_of_ble_eq_true rfl, Nat.le_of_ble_eq_true rfl⟩ hK hP hD hS hA hE 0 rfl rfl [0, 1, 2, 3, 4, 5, 6, 7, 8] [] rfl rfl rfl 9 ⟨rfl, rfl⟩ (by decide +kernel) (by decide +kernel) rfl rfl hl.1 (Nat.le_of_ble_eq_true rfl) ⟨Nat.zero_le _, Nat.zero_le _⟩ dX5_fired_2 (fun H locs hP hD hS => ?_)
  refine lv_if_eq (tgt := 20) hx hb dX5_fired_5 (by decide) (fun c2 => ?_) (fun c2 => ?_)
  · replace h := (if_pos c2).symm.trans h
    refine lv_ldc (v := (-2000000001)) hx hb hown (hts _ kw638) dX5_fired_20 ?_
    rw [← Option.some.inj h]
    exact kri hx hb hr hlk rfl rfl hP hD hS hK dX5_fired_22
  · replace h := (if_neg c2).symm.trans h
    refine lv_aload_n hx hb dX5_fired_8 rfl (lv_at hl 0 rfl) ?_
    refine va_get (D := G) (ci := 5) (v := .ref (aM 1)) (C := RX5) (T := TX5) (N := 16) hx hb hts uX5 hown hK hP 0 rfl rfl 0 (by decide) (hts _ kw579) (fun _ h9 => h9) rfl dX5_fired_9 ?_
    refine lv_bipush (v := 108) hx hb dX5_fired_12 (by decide) ?_
    refine lv_iload_n hx hb dX5_fired_14 rfl (lv_at hl 1 rfl) ?_
    refine lv_iadd hx hb dX5_fired_15 ?_
    obtain ⟨g3, h⟩ := gd_s h
    refine va_iald hx hb hK hP 1 0 rfl rfl (ib_in g3) dX5_fired_16 ?_
    refine lv_goto (tgt := 22) hx hb dX5_fired_17 (by decide) ?_
    rw [← Option.some.inj h]
    exact kri hx hb hr hlk rfl rfl hP hD hS hK dX5_fired_22

/-! X5_impulse -/
def f_X5_impulse (row : Nat → Int32) (p0 : Int32) (p1 : Int32) : Option (Int32) :=
  (f_X5_isPart p1).bind (fun q1 => if q1 = 0 then (some (-2000000001)) else ((f_X5_in p0 0 2).bind (fun q3 => if q3 = 0 then (some (-2000000002)) else (gd (ib ((99 + (3 * p0)) + p1) 708) (some (row ((99 + (3 * p0)) + p1).toNatClampNeg))))))

set_option maxHeartbeats 4000000 in
set_option maxRecDepth 100000 in
theorem c_X5_impulse (l : Launch) (G : va_G) (cI cJ cZ cO cA : ClassId) (e : Nat × Nat) (aM : Nat → Nat) (sz : Nat) (row : Nat → Int32) (tot : Nat → Int64) (tab : Nat → Int64) (goa : Nat → Int64) (bes : Nat → Int64) (tic : Nat → Int64) (txt : Nat → Int32) (par : Nat → Int32) (sav : Int32) (bwh : Int64) (bpr : Int64) (bse : Int32) (len : Int32) (mat : Int32) (ask : Int32) (hh : Int64) (p0 : Int32) (p1 : Int32) {res : Int32} (hf : f_X5_impulse row p0 p1 = some res) : MetI l yX5_impulse cX5_impulse 3 .int ({ frames := 2, cells := 0, slots := 0, locals := 42 } : Room) [.ref (aM 0), .int p0, .int p1] G (ty5 cI cJ cZ cO cA) e (wM cI cJ aM row tot tab goa bes tic txt par sav bwh bpr bse len mat ask hh ++ ([] : va_W)) (wM cI cJ aM row tot tab goa bes tic txt par sav bwh bpr bse len mat ask hh ++ ([] : va_W)) sz res := by
  refine g_body (QQ := fun A => (qI G (ty5 cI cJ cZ cO cA) A (wM cI cJ aM row tot tab goa bes tic txt par sav bwh bpr bse len mat ask hh ++ ([] : va_W)) res)) (own := RX5) (by decide) rfl (Nat.le_of_ble_eq_true rfl) ?_
  intro p ev s m below meth c A ls hx hb hr hml hown hts hlk hA hP hD hS hK hE hl
  have hl : lv_has ls 3 [(0, .ref (aM 0)), (1, .int p0), (2, .int p1)] := hl
  show W p l ev ({ frames := 2, cells := 0, slots := 0, locals := 42 } : Room) s m ([.ref (aM 0), .int p0, .int p1] : List Value).toArray below meth c s.heap [] 0 0 (MQ below (qI G (ty5 cI cJ cZ cO cA) A (wM cI cJ aM row tot tab goa bes tic txt par sav bwh bpr bse len mat ask hh ++ ([] : va_W)) res) ([.ref (aM 0), .int p0, .int p1] : List Value).toArray s 0 0 A) (F0 m 0 ls [])
  have h := hf
  unfold f_X5_impulse at h
  refine lv_iload_n hx hb dX5_impulse_0 rfl (lv_at hl 2 rfl) ?_
  obtain ⟨q1, hq1, h⟩ := bd_s h
  refine kSi (n := 1) (As := [.int p1]) (rest := []) hx hb hml hown hts (c_X5_isPart l G cI cJ cZ cO cA e _ p1 hq1) (tb_S kw685 kw686 kw7 kw687) rfl rfl (by decide +kernel) ⟨Nat.le_of_ble_eq_true rfl, Nat.le_of_ble_eq_true rfl⟩ hK hP hD hS hA hE rfl rfl hl.1 (Nat.le_of_ble_eq_true rfl) ⟨Nat.zero_le _, Nat.zero_le _⟩ dX5_impulse_1 (fun H locs hP hD hS => ?_)
  refine lv_if_ne (tgt := 10) hx hb dX5_impulse_4 (by decide) (fun c2 => ?_) (fun c2 => ?_)
  · replace h := (if_neg c2).symm.trans h
    refine lv_iload_n hx hb dX5_impulse_10 rfl (lv_at hl 1 rfl) ?_
    refine lv_iconst (v := 0) hx hb dX5_impulse_11 (by decide) ?_
    refine lv_iconst (v := 2) hx hb dX5_impulse_12 (by decide) ?_
    obtain ⟨q3, hq3, h⟩ := bd_s h
    refine kSi (n := 3) (As := [.int p0, .int 0, .int 2]) (rest := []) hx hb hml hown hts (c_X5_in l G cI cJ cZ cO cA e _ p0 0 2 hq3) (tb_S kw635 kw636 kw7 kw637) rfl rfl (by decide +kernel) ⟨Nat.le_of_ble_eq_true rfl, Nat.le_of_ble_eq_true rfl⟩ hK hP hD hS hA hE rfl rfl hl.1 (Nat.le_of_ble_eq_true rfl) ⟨Nat.zero_le _, Nat.zero_le _⟩ dX5_impulse_13 (fun H locs hP hD hS => ?_)
    refine lv_if_eq (tgt := 35) hx hb dX5_impulse_16 (by decide) (fun c4 => ?_) (fun c4 => ?_)
    · replace h := (if_pos c4).symm.trans h
      refine lv_ldc (v := (-2000000002)) hx hb hown (hts _ kw639) dX5_impulse_35 ?_
      rw [← Option.some.inj h]
      exact kri hx hb hr hlk rfl rfl hP hD hS hK dX5_impulse_37
    · replace h := (if_neg c4).symm.trans h
      refine lv_aload_n hx hb dX5_impulse_19 rfl (lv_at hl 0 rfl) ?_
      refine va_get (D := G) (ci := 5) (v := .ref (aM 1)) (C := RX5) (T := TX5) (N := 16) hx hb hts uX5 hown hK hP 0 rfl rfl 0 (by decide) (hts _ kw579) (fun _ h9 => h9) rfl dX5_impulse_20 ?_
      refine lv_bipush (v := 99) hx hb dX5_impulse_23 (by decide) ?_
      refine lv_iconst (v := 3) hx hb dX5_impulse_25 (by decide) ?_
      refine lv_iload_n hx hb dX5_impulse_26 rfl (lv_at hl 1 rfl) ?_
      refine lv_imul hx hb dX5_impulse_27 ?_
      refine lv_iadd hx hb dX5_impulse_28 ?_
      refine lv_iload_n hx hb dX5_impulse_29 rfl (lv_at hl 2 rfl) ?_
      refine lv_iadd hx hb dX5_impulse_30 ?_
      obtain ⟨g5, h⟩ := gd_s h
      refine va_iald hx hb hK hP 1 0 rfl rfl (ib_in g5) dX5_impulse_31 ?_
      refine lv_goto (tgt := 37) hx hb dX5_impulse_32 (by decide) ?_
      rw [← Option.some.inj h]
      exact kri hx hb hr hlk rfl rfl hP hD hS hK dX5_impulse_37
  · replace h := (if_pos c2).symm.trans h
    refine lv_ldc (v := (-2000000001)) hx hb hown (hts _ kw638) dX5_impulse_7 ?_
    rw [← Option.some.inj h]
    exact kri hx hb hr hlk rfl rfl hP hD hS hK dX5_impulse_9

/-! X5_total -/
def f_X5_total (tot : Nat → Int64) (p0 : Int32) : Option (Int64) :=
  (f_X5_isPart p0).bind (fun q1 => if q1 = 0 then (some (-2000000001)) else (gd (ib p0 18) (some (tot p0.toNatClampNeg))))

set_option maxHeartbeats 4000000 in
set_option maxRecDepth 100000 in
theorem c_X5_total (l : Launch) (G : va_G) (cI cJ cZ cO cA : ClassId) (e : Nat × Nat) (aM : Nat → Nat) (sz : Nat) (row : Nat → Int32) (tot : Nat → Int64) (tab : Nat → Int64) (goa : Nat → Int64) (bes : Nat → Int64) (tic : Nat → Int64) (txt : Nat → Int32) (par : Nat → Int32) (sav : Int32) (bwh : Int64) (bpr : Int64) (bse : Int32) (len : Int32) (mat : Int32) (ask : Int32) (hh : Int64) (p0 : Int32) {res : Int64} (hf : f_X5_total tot p0 = some res) : MetL l yX5_total cX5_total 2 ({ frames := 2, cells := 0, slots := 0, locals := 42 } : Room) [.ref (aM 0), .int p0] G (ty5 cI cJ cZ cO cA) e (wM cI cJ aM row tot tab goa bes tic txt par sav bwh bpr bse len mat ask hh ++ ([] : va_W)) (wM cI cJ aM row tot tab goa bes tic txt par sav bwh bpr bse len mat ask hh ++ ([] : va_W)) sz res := by
  refine g_body (QQ := fun A => (qL G (ty5 cI cJ cZ cO cA) A (wM cI cJ aM row tot tab goa bes tic txt par sav bwh bpr bse len mat ask hh ++ ([] : va_W)) res)) (own := RX5) (by decide) rfl (Nat.le_of_ble_eq_true rfl) ?_
  intro p ev s m below meth c A ls hx hb hr hml hown hts hlk hA hP hD hS hK hE hl
  have hl : lv_has ls 2 [(0, .ref (aM 0)), (1, .int p0)] := hl
  show W p l ev ({ frames := 2, cells := 0, slots := 0, locals := 42 } : Room) s m ([.ref (aM 0), .int p0] : List Value).toArray below meth c s.heap [] 0 0 (MQ below (qL G (ty5 cI cJ cZ cO cA) A (wM cI cJ aM row tot tab goa bes tic txt par sav bwh bpr bse len mat ask hh ++ ([] : va_W)) res) ([.ref (aM 0), .int p0] : List Value).toArray s 0 0 A) (F0 m 0 ls [])
  have h := hf
  unfold f_X5_total at h
  refine lv_iload_n hx hb dX5_total_0 rfl (lv_at hl 1 rfl) ?_
  obtain ⟨q1, hq1, h⟩ := bd_s h
  refine kSi (n := 1) (As := [.int p0]) (rest := []) hx hb hml hown hts (c_X5_isPart l G cI cJ cZ cO cA e _ p0 hq1) (tb_S kw685 kw686 kw7 kw687) rfl rfl (by decide +kernel) ⟨Nat.le_of_ble_eq_true rfl, Nat.le_of_ble_eq_true rfl⟩ hK hP hD hS hA hE rfl rfl hl.1 (Nat.le_of_ble_eq_true rfl) ⟨Nat.zero_le _, Nat.zero_le _⟩ dX5_total_1 (fun H locs hP hD hS => ?_)
  refine lv_if_eq (tgt := 16) hx hb dX5_total_4 (by decide) (fun c2 => ?_) (fun c2 => ?_)
  · replace h := (if_pos c2).symm.trans h
    refine lv_ldc2 (v := (-2000000001)) hx hb hown (hts _ kw858) dX5_total_16 ?_
    rw [← Option.some.inj h]
    exact krl hx hb hr hlk rfl hP hD hS hK dX5_total_19
  · replace h := (if_neg c2).symm.trans h
    refine lv_aload_n hx hb dX5_total_7 rfl (lv_at hl 0 rfl) ?_
    refine va_get (D := G) (ci := 5) (v := .ref (aM 2)) (C := RX5) (T := TX5) (N := 16) hx hb hts uX5 hown hK hP 0 rfl rfl 1 (by decide) (hts _ kw580) (fun _ h9 => h9) rfl dX5_total_8 ?_
    refine lv_iload_n hx hb dX5_total_11 rfl (lv_at hl 1 rfl) ?_
    obtain ⟨g3, h⟩ := gd_s h
    refine va_lald hx hb hK hP 2 1 rfl rfl (ib_in g3) dX5_total_12 ?_
    refine lv_goto (tgt := 19) hx hb dX5_total_13 (by decide) ?_
    rw [← Option.some.inj h]
    exact krl hx hb hr hlk rfl hP hD hS hK dX5_total_19

/-! X5_explains -/
def f_X5_explains_j52 (v4 : Int32) (t0 : Int32) : Option ((Int32 × Int32) ⊕ (Int32)) :=
  some (Sum.inl (t0, (v4 + 1)))
def f_X5_explains_j51 (v4 : Int32) : Option ((Int32 × Int32) ⊕ (Int32)) :=
  f_X5_explains_j52 v4 0
def f_X5_explains_b5 (row : Nat → Int32) (goa : Nat → Int64) (v1 : Int32) (v2 : Int32) (z1 : Int32 × Int32) : Option ((Int32 × Int32) ⊕ (Int32)) :=
  if 3 ≤ z1.2 then (some (Sum.inr z1.1)) else (if z1.1 = 0 then (f_X5_explains_j51 z1.2) else (gd (ib (102 + z1.2) 708) ((f_X5_unitOf row v1 z1.2).bind (fun q7 => gd (ib z1.2 3) (if (lg_cmp (((row (102 + z1.2).toNatClampNeg) + (v2 * q7)).toInt64) (goa z1.2.toNatClampNeg)) = 0 then (f_X5_explains_j52 z1.2 1) else (f_X5_explains_j51 z1.2))))))
def f_X5_explains (row : Nat → Int32) (goa : Nat → Int64) (p0 : Int32) (p1 : Int32) : Option (Int32) :=
  (lp (f_X5_explains_b5 row goa p0 p1) 1000 (1, 0)).bind (fun q1 => gd (zb q1) (some q1))

set_option maxHeartbeats 4000000 in
set_option maxRecDepth 100000 in
theorem c_X5_explains (l : Launch) (G : va_G) (cI cJ cZ cO cA : ClassId) (e : Nat × Nat) (aM : Nat → Nat) (sz : Nat) (row : Nat → Int32) (tot : Nat → Int64) (tab : Nat → Int64) (goa : Nat → Int64) (bes : Nat → Int64) (tic : Nat → Int64) (txt : Nat → Int32) (par : Nat → Int32) (sav : Int32) (bwh : Int64) (bpr : Int64) (bse : Int32) (len : Int32) (mat : Int32) (ask : Int32) (hh : Int64) (p0 : Int32) (p1 : Int32) {res : Int32} (hf : f_X5_explains row goa p0 p1 = some res) : MetI l yX5_explains cX5_explains 5 .boolean ({ frames := 2, cells := 0, slots := 0, locals := 47 } : Room) [.ref (aM 0), .int p0, .int p1] G (ty5 cI cJ cZ cO cA) e (wM cI cJ aM row tot tab goa bes tic txt par sav bwh bpr bse len mat ask hh ++ ([] : va_W)) (wM cI cJ aM row tot tab goa bes tic txt par sav bwh bpr bse len mat ask hh ++ ([] : va_W)) sz res := by
  refine g_body (QQ := fun A => (qI G (ty5 cI cJ cZ cO cA) A (wM cI cJ aM row tot tab goa bes tic txt par sav bwh bpr bse len mat ask hh ++ ([] : va_W)) res)) (own := RX5) (by decide) rfl (Nat.le_of_ble_eq_true rfl) ?_
  intro p ev s m below meth c A ls hx hb hr hml hown hts hlk hA hP hD hS hK hE hl
  have hl : lv_has ls 5 [(0, .ref (aM 0)), (1, .int p0), (2, .int p1)] := hl
  show W p l ev ({ frames := 2, cells := 0, slots := 0, locals := 47 } : Room) s m ([.ref (aM 0), .int p0, .int p1] : List Value).toArray below meth c s.heap [] 0 0 (MQ below (qI G (ty5 cI cJ cZ cO cA) A (wM cI cJ aM row tot tab goa bes tic txt par sav bwh bpr bse len mat ask hh ++ ([] : va_W)) res) ([.ref (aM 0), .int p0, .int p1] : List Value).toArray s 0 0 A) (F0 m 0 ls [])
  have h := hf
  unfold f_X5_explains at h
  refine lv_iconst (v := 1) hx hb dX5_explains_0 (by decide) ?_
  refine lv_istore_n (lv' := [(3, .int 1), (0, .ref (aM 0)), (1, .int p0), (2, .int p1)]) hx hb dX5_explains_1 rfl hl (by decide) rfl (fun ls hl => ?_)
  refine lv_iconst (v := 0) hx hb dX5_explains_2 (by decide) ?_
  refine lv_istore (lv' := [(4, .int 0), (3, .int 1), (0, .ref (aM 0)), (1, .int p0), (2, .int p1)]) hx hb dX5_explains_3 hl (by decide) rfl (fun ls hl => ?_)
  obtain ⟨q1, hq1, h⟩ := bd_s h
  have hX1_0 : ∀ (x1 : Int32) (H : Heap) (locs : List Loc) (ls : Array Slot), x1 = q1 → va_P G vwCl (wM cI cJ aM row tot tab goa bes tic txt par sav bwh bpr bse len mat ask hh ++ ([] : va_W)) H → va_D A (wM cI cJ aM row tot tab goa bes tic txt par sav bwh bpr bse len mat ask hh ++ ([] : va_W)) → va_S A s.heap H locs → lv_has ls 5 [(3, .int x1)] → W p l ev ({ frames := 2, cells := 0, slots := 0, locals := 47 } : Room) s m ([.ref (aM 0), .int p0, .int p1] : List Value).toArray below meth c H locs 0 0 (MQ below (qI G (ty5 cI cJ cZ cO cA) A (wM cI cJ aM row tot tab goa bes tic txt par sav bwh bpr bse len mat ask hh ++ ([] : va_W)) res) ([.ref (aM 0), .int p0, .int p1] : List Value).toArray s 0 0 A) (F0 m 59 ls []) := by
    intro x1 H locs ls e1 hP hD hS hl
    replace e1 := e1.symm
    subst e1
    refine lv_iload_n hx hb dX5_explains_59 rfl (lv_at hl 0 rfl) ?_
    obtain ⟨g10, h⟩ := gd_s h
    rw [← Option.some.inj h]
    exact kri hx hb hr hlk (zb_s g10) rfl hP hD hS hK dX5_explains_60
  have hL1 : ∀ (n : Nat) (z1 : Int32 × Int32) (H : Heap) (locs : List Loc) (ls : Array Slot), lp (f_X5_explains_b5 row goa p0 p1) n z1 = some q1 → va_P G vwCl (wM cI cJ aM row tot tab goa bes tic txt par sav bwh bpr bse len mat ask hh ++ ([] : va_W)) H → va_D A (wM cI cJ aM row tot tab goa bes tic txt par sav bwh bpr bse len mat ask hh ++ ([] : va_W)) → va_S A s.heap H locs → lv_has ls 5 [(0, .ref (aM 0)), (1, .int p0), (2, .int p1), (3, .int z1.1), (4, .int z1.2)] → W p l ev ({ frames := 2, cells := 0, slots := 0, locals := 47 } : Room) s m ([.ref (aM 0), .int p0, .int p1] : List Value).toArray below meth c H locs 0 0 (MQ below (qI G (ty5 cI cJ cZ cO cA) A (wM cI cJ aM row tot tab goa bes tic txt par sav bwh bpr bse len mat ask hh ++ ([] : va_W)) res) ([.ref (aM 0), .int p0, .int p1] : List Value).toArray s 0 0 A) (F0 m 5 ls []) := by
    intro n
    induction n with
    | zero => intro z1 H locs ls h; cases h
    | succ n ih1 =>
      intro z1 H locs ls h hP hD hS hl
      obtain ⟨o1, h, h1⟩ := lp_s h
      unfold f_X5_explains_b5 at h
      refine lv_iload hx hb dX5_explains_5 (lv_at hl 4 rfl) ?_
      refine lv_iconst (v := 3) hx hb dX5_explains_7 (by decide) ?_
      refine lv_icmp_ge (tgt := 59) hx hb dX5_explains_8 (by decide) (fun c2 => ?_) (fun c2 => ?_)
      · replace h := (if_pos c2).symm.trans h
        rw [← Option.some.inj h] at h1
        exact hX1_0 z1.1 _ _ _ (lp_x h1) hP hD hS (lv_sub hl [3] rfl)
      · replace h := (if_neg c2).symm.trans h
        refine lv_iload_n hx hb dX5_explains_11 rfl (lv_at hl 3 rfl) ?_
        have hJ4 : ∀ (v4_4 : Int32) (t0_4 : Int32) (H : Heap) (locs : List Loc) (ls : Array Slot), f_X5_explains_j52 v4_4 t0_4 = some o1 → va_P G vwCl (wM cI cJ aM row tot tab goa bes tic txt par sav bwh bpr bse len mat ask hh ++ ([] : va_W)) H → va_D A (wM cI cJ aM row tot tab goa bes tic txt par sav bwh bpr bse len mat ask hh ++ ([] : va_W)) → va_S A s.heap H locs → lv_has ls 5 [(0, .ref (aM 0)), (1, .int p0), (2, .int p1), (4, .int v4_4)] → W p l ev ({ frames := 2, cells := 0, slots := 0, locals := 47 } : Room) s m ([.ref (aM 0), .int p0, .int p1] : List Value).toArray below meth c H locs 0 0 (MQ below (qI G (ty5 cI cJ cZ cO cA) A (wM cI cJ aM row tot tab goa bes tic txt par sav bwh bpr bse len mat ask hh ++ ([] : va_W)) res) ([.ref (aM 0), .int p0, .int p1] : List Value).toArray s 0 0 A) (F0 m 52 ls [.int t0_4]) := by
          intro v4_4 t0_4 H locs ls h hP hD hS hl
          unfold f_X5_explains_j52 at h
          refine lv_istore_n (lv' := [(3, .int t0_4), (0, .ref (aM 0)), (1, .int p0), (2, .int p1), (4, .int v4_4)]) hx hb dX5_explains_52 rfl hl (by decide) rfl (fun ls hl => ?_)
          refine lv_iinc (v := (v4_4 + 1)) (lv' := [(4, .int (v4_4 + 1)), (3, .int t0_4), (0, .ref (aM 0)), (1, .int p0), (2, .int p1)]) hx hb dX5_explains_53 hl (k := 4) rfl rfl (by decide) rfl (fun ls hl => ?_)
          refine lv_goto (tgt := 5) hx hb dX5_explains_56 (by decide) ?_
          rw [← Option.some.inj h] at h1
          exact ih1 (t0_4, (v4_4 + 1)) _ _ _ (lp_b h1) hP hD hS (lv_sub hl [2, 3, 4, 1, 0] rfl)
        have hJ5 : ∀ (v4_5 : Int32) (H : Heap) (locs : List Loc) (ls : Array Slot), f_X5_explains_j51 v4_5 = some o1 → va_P G vwCl (wM cI cJ aM row tot tab goa bes tic txt par sav bwh bpr bse len mat ask hh ++ ([] : va_W)) H → va_D A (wM cI cJ aM row tot tab goa bes tic txt par sav bwh bpr bse len mat ask hh ++ ([] : va_W)) → va_S A s.heap H locs → lv_has ls 5 [(0, .ref (aM 0)), (1, .int p0), (2, .int p1), (4, .int v4_5)] → W p l ev ({ frames := 2, cells := 0, slots := 0, locals := 47 } : Room) s m ([.ref (aM 0), .int p0, .int p1] : List Value).toArray below meth c H locs 0 0 (MQ below (qI G (ty5 cI cJ cZ cO cA) A (wM cI cJ aM row tot tab goa bes tic txt par sav bwh bpr bse len mat ask hh ++ ([] : va_W)) res) ([.ref (aM 0), .int p0, .int p1] : List Value).toArray s 0 0 A) (F0 m 51 ls []) := by
          intro v4_5 H locs ls h hP hD hS hl
          unfold f_X5_explains_j51 at h
          refine lv_iconst (v := 0) hx hb dX5_explains_51 (by decide) ?_
          exact hJ4 v4_5 0 _ _ _ h hP hD hS (lv_sub hl [0, 1, 2, 3] rfl)
        refine lv_if_eq (tgt := 51) hx hb dX5_explains_12 (by decide) (fun c3 => ?_) (fun c3 => ?_)
        · replace h := (if_pos c3).symm.trans h
          exact hJ5 z1.2 _ _ _ h hP hD hS (lv_sub hl [0, 1, 2, 4] rfl)
        · replace h := (if_neg c3).symm.trans h
          refine lv_aload_n hx hb dX5_explains_15 rfl (lv_at hl 0 rfl) ?_
          refine va_get (D := G) (ci := 5) (v := .ref (aM 1)) (C := RX5) (T := TX5) (N := 16) hx hb hts uX5 hown hK hP 0 rfl rfl 0 (by decide) (hts _ kw579) (fun _ h9 => h9) rfl dX5_explains_16 ?_
          refine lv_bipush (v := 102) hx hb dX5_explains_19 (by decide) ?_
          refine lv_iload hx hb dX5_explains_21 (lv_at hl 4 rfl) ?_
          refine lv_iadd hx hb dX5_explains_23 ?_
          obtain ⟨g6, h⟩ := gd_s h
          refine va_iald hx hb hK hP 1 0 rfl rfl (ib_in g6) dX5_explains_24 ?_
          refine lv_iload_n hx hb dX5_explains_25 rfl (lv_at hl 2 rfl) ?_
          refine lv_aload_n hx hb dX5_explains_26 rfl (lv_at hl 0 rfl) ?_
          refine lv_iload_n hx hb dX5_explains_27 rfl (lv_at hl 1 rfl) ?_
          refine lv_iload hx hb dX5_explains_28 (lv_at hl 4 rfl) ?_
          obtain ⟨q7, hq7, h⟩ := bd_s h
          refine kVi (n := 2) (C := RX5) (ws' := wM cI cJ aM row tot tab goa bes tic txt par sav bwh bpr bse len mat ask hh ++ ([] : va_W)) (As := [.int p0, .int z1.2]) (rest := [.int p1, .int (row (102 + z1.2).toNatClampNeg)]) hx hb hml hown hts (c_X5_unitOf l G cI cJ cZ cO cA e aM _ row tot tab goa bes tic txt par sav bwh bpr bse len mat ask hh p0 z1.2 hq7) (tb_V kw688 kw690 kv21 kw7 kw691) rfl rfl (by decide +kernel) ⟨Nat.le_of_ble_eq_true rfl, Nat.le_of_ble_eq_true rfl⟩ hK hP hD hS hA hE 0 rfl rfl [0, 1, 2, 3, 4, 5, 6, 7, 8] [] rfl rfl rfl 9 ⟨rfl, rfl⟩ (by decide +kernel) (by decide +kernel) rfl rfl hl.1 (Nat.le_of_ble_eq_true rfl) ⟨Nat.zero_le _, Nat.zero_le _⟩ dX5_explains_30 (fun H locs hP hD hS => ?_)
          refine lv_imul hx hb dX5_explains_33 ?_
          refine lv_iadd hx hb dX5_explains_34 ?_
          refine lv_i2l (v := ((row (102 + z1.2).toNatClampNeg) + (p1 * q7)).toInt64) hx hb dX5_explains_35 rfl ?_
          refine lv_aload_n hx hb dX5_explains_36 rfl (lv_at hl 0 rfl) ?_
          refine va_get (D := G) (ci := 5) (v := .ref (aM 4)) (C := RX5) (T := TX5) (N := 16) hx hb hts uX5 hown hK hP 0 rfl rfl 4 (by decide) (hts _ kw583) (fun _ h9 => h9) rfl dX5_explains_37 ?_
          refine lv_iload hx hb dX5_explains_40 (lv_at hl 4 rfl) ?_
          obtain ⟨g8, h⟩ := gd_s h
          refine va_lald hx hb hK hP 4 1 rfl rfl (ib_in g8) dX5_explains_42 ?_
          refine W.lcmp hx hb dX5_explains_43 ?_
          refine lv_if_ne (tgt := 51) hx hb dX5_explains_44 (by decide) (fun c9 => ?_) (fun c9 => ?_)
          · replace h := (if_neg c9).symm.trans h
            exact hJ5 z1.2 _ _ _ h hP hD hS (lv_sub hl [0, 1, 2, 4] rfl)
          · replace h := (if_pos c9).symm.trans h
            refine lv_iconst (v := 1) hx hb dX5_explains_47 (by decide) ?_
            refine lv_goto (tgt := 52) hx hb dX5_explains_48 (by decide) ?_
            exact hJ4 z1.2 1 _ _ _ h hP hD hS (lv_sub hl [0, 1, 2, 4] rfl)
  exact hL1 _ (1, 0) _ _ _ hq1 hP hD hS (lv_sub hl [2, 3, 4, 1, 0] rfl)

/-! X5_isMeasured -/
def f_X5_isMeasured (p0 : Int32) : Option (Int32) :=
  (f_X5_in p0 (-1000000) 1000000).bind (fun q1 => gd (zb q1) (some q1))

set_option maxHeartbeats 4000000 in
set_option maxRecDepth 100000 in
theorem c_X5_isMeasured (l : Launch) (G : va_G) (cI cJ cZ cO cA : ClassId) (e : Nat × Nat) (sz : Nat) (p0 : Int32) {res : Int32} (hf : f_X5_isMeasured p0 = some res) : MetI l yX5_isMeasured cX5_isMeasured 1 .boolean ({ frames := 1, cells := 0, slots := 0, locals := 22 } : Room) [.int p0] G (ty5 cI cJ cZ cO cA) e (([] : va_W)) (([] : va_W)) sz res := by
  refine g_body (QQ := fun A => (qI G (ty5 cI cJ cZ cO cA) A (([] : va_W)) res)) (own := RX5) (by decide) rfl (Nat.le_of_ble_eq_true rfl) ?_
  intro p ev s m below meth c A ls hx hb hr hml hown hts hlk hA hP hD hS hK hE hl
  have hl : lv_has ls 1 [(0, .int p0)] := hl
  show W p l ev ({ frames := 1, cells := 0, slots := 0, locals := 22 } : Room) s m ([.int p0] : List Value).toArray below meth c s.heap [] 0 0 (MQ below (qI G (ty5 cI cJ cZ cO cA) A (([] : va_W)) res) ([.int p0] : List Value).toArray s 0 0 A) (F0 m 0 ls [])
  have h := hf
  unfold f_X5_isMeasured at h
  refine lv_iload_n hx hb dX5_isMeasured_0 rfl (lv_at hl 0 rfl) ?_
  refine lv_ldc (v := (-1000000)) hx hb hown (hts _ kw866) dX5_isMeasured_1 ?_
  refine lv_ldc (v := 1000000) hx hb hown (hts _ kw867) dX5_isMeasured_3 ?_
  obtain ⟨q1, hq1, h⟩ := bd_s h
  refine kSi (n := 3) (As := [.int p0, .int (-1000000), .int 1000000]) (rest := []) hx hb hml hown hts (c_X5_in l G cI cJ cZ cO cA e _ p0 (-1000000) 1000000 hq1) (tb_S kw635 kw636 kw7 kw637) rfl rfl (by decide +kernel) ⟨Nat.le_of_ble_eq_true rfl, Nat.le_of_ble_eq_true rfl⟩ hK hP hD hS hA hE rfl rfl hl.1 (Nat.le_of_ble_eq_true rfl) ⟨Nat.zero_le _, Nat.zero_le _⟩ dX5_isMeasured_5 (fun H locs hP hD hS => ?_)
  obtain ⟨g2, h⟩ := gd_s h
  rw [← Option.some.inj h]
  exact kri hx hb hr hlk (zb_s g2) rfl hP hD hS hK dX5_isMeasured_8

/-! X5_suspect -/
def f_X5_suspect_j21 (goa : Nat → Int64) : Option (Int32 × (Nat → Int64)) :=
  some ((-2000000002), goa)
def f_X5_suspect_j88 (v5 : Int32) (t0 : Int32) : Option ((Int32 × Int32) ⊕ (Int32)) :=
  some (Sum.inl (t0, (v5 + 1)))
def f_X5_suspect_j87 (v5 : Int32) : Option ((Int32 × Int32) ⊕ (Int32)) :=
  f_X5_suspect_j88 v5 0
def f_X5_suspect_b50 (row : Nat → Int32) (goa : Nat → Int64) (z11 : Int32 × Int32) : Option ((Int32 × Int32) ⊕ (Int32)) :=
  if 3 ≤ z11.2 then (some (Sum.inr z11.1)) else (if z11.1 = 0 then (f_X5_suspect_j87 z11.2) else (gd (ib (102 + z11.2) 708) (gd (ib z11.2 3) (if (lg_cmp ((row (102 + z11.2).toNatClampNeg).toInt64) (goa z11.2.toNatClampNeg)) = 0 then (f_X5_suspect_j88 z11.2 1) else (f_X5_suspect_j87 z11.2)))))
def f_X5_suspect_j203 (row : Nat → Int32) (goa : Nat → Int64) (v5 : Int32) (v6 : Int32) (t0 : Int32) (t1 : Int32) : Option ((Int32) ⊕ ((Int32 × Int32) ⊕ (Unit))) :=
  (f_X5_explains row goa t1 t0).bind (fun q32 => if q32 = 0 then (some (Sum.inl (v5 + 1))) else (some (Sum.inr (Sum.inl (v5, v6)))))
def f_X5_suspect_j182 (row : Nat → Int32) (goa : Nat → Int64) (v5 : Int32) (v6 : Int32) (v8 : Int32) : Option ((Int32) ⊕ ((Int32 × Int32) ⊕ (Unit))) :=
  if 8 ≤ v5 then (f_X5_suspect_j203 row goa v5 v6 (20 - v8) v6) else (f_X5_suspect_j203 row goa v5 v6 (-v8) v6)
def f_X5_suspect_j141 (row : Nat → Int32) (goa : Nat → Int64) (v5 : Int32) (v6 : Int32) (t0 : Int32) : Option ((Int32) ⊕ ((Int32 × Int32) ⊕ (Unit))) :=
  gd (ib (108 + v6) 708) (if t0 = 0 then (some (Sum.inl (v5 + 1))) else (if 8 ≤ v5 then (if 20 ≤ (row (108 + v6).toNatClampNeg) then (some (Sum.inl (v5 + 1))) else (f_X5_suspect_j182 row goa v5 v6 (row (108 + v6).toNatClampNeg))) else (if (row (108 + v6).toNatClampNeg) ≤ 0 then (some (Sum.inl (v5 + 1))) else (f_X5_suspect_j182 row goa v5 v6 (row (108 + v6).toNatClampNeg)))))
def f_X5_suspect_b106 (row : Nat → Int32) (goa : Nat → Int64) (z20 : Int32) : Option ((Int32) ⊕ ((Int32 × Int32) ⊕ (Unit))) :=
  if 16 ≤ z20 then (some (Sum.inr (Sum.inr ()))) else (gd (ib 116 708) (if (((row (116 : Int32).toNatClampNeg) >>> ((z20 - z20 / 8 * 8) &&& 31)) &&& 1) = 1 then (f_X5_suspect_j141 row goa z20 (z20 - z20 / 8 * 8) 1) else (f_X5_suspect_j141 row goa z20 (z20 - z20 / 8 * 8) 0)))
def f_X5_suspect_j224 (goa : Nat → Int64) (v6 : Int32) (t0 : Int32) : Option (Int32 × (Nat → Int64)) :=
  some ((t0 + v6), goa)
def f_X5_suspect (row : Nat → Int32) (goa : Nat → Int64) (p0 : Int32) (p1 : Int32) (p2 : Int32) : Option (Int32 × (Nat → Int64)) :=
  (f_X5_isMeasured p0).bind (fun q1 => if q1 = 0 then (f_X5_suspect_j21 goa) else ((f_X5_isMeasured p1).bind (fun q4 => if q4 = 0 then (f_X5_suspect_j21 goa) else ((f_X5_isMeasured p2).bind (fun q6 => if q6 = 0 then (f_X5_suspect_j21 goa) else (gd (ib 117 708) (if (row (117 : Int32).toNatClampNeg) = 0 then (some ((-2000000003), goa)) else ((f_X5_aims goa p0 p1 p2).bind (fun q10 => (lp (f_X5_suspect_b50 row q10) 1000 (1, 0)).bind (fun q11 => if q11 = 0 then ((lp (f_X5_suspect_b106 row q10) 1000 0).bind (fun q20 => Sum.elim (fun t20 => if 8 ≤ t20.1 then (f_X5_suspect_j224 q10 t20.2 200) else (f_X5_suspect_j224 q10 t20.2 100)) (fun t20 => some ((-2000000000), q10)) q20)) else (some (0, q10))))))))))))

set_option maxHeartbeats 4000000 in
set_option maxRecDepth 100000 in
theorem c_X5_suspect (l : Launch) (G : va_G) (cI cJ cZ cO cA : ClassId) (e : Nat × Nat) (aM : Nat → Nat) (sz : Nat) (row : Nat → Int32) (tot : Nat → Int64) (tab : Nat → Int64) (goa : Nat → Int64) (bes : Nat → Int64) (tic : Nat → Int64) (txt : Nat → Int32) (par : Nat → Int32) (sav : Int32) (bwh : Int64) (bpr : Int64) (bse : Int32) (len : Int32) (mat : Int32) (ask : Int32) (hh : Int64) (p0 : Int32) (p1 : Int32) (p2 : Int32) {res : Int32 × (Nat → Int64)} (hf : f_X5_suspect row goa p0 p1 p2 = some res) : MetI l yX5_suspect cX5_suspect 9 .int ({ frames := 3, cells := 0, slots := 0, locals := 71 } : Room) [.ref (aM 0), .int p0, .int p1, .int p2] G (ty5 cI cJ cZ cO cA) e (wM cI cJ aM row tot tab goa bes tic txt par sav bwh bpr bse len mat ask hh ++ ([] : va_W)) (wM cI cJ aM row tot tab res.2 bes tic txt par sav bwh bpr bse len mat ask hh ++ ([] : va_W)) sz res.1 := by
  refine g_body (QQ := fun A => (qI G (ty5 cI cJ cZ cO cA) A (wM cI cJ aM row tot tab res.2 bes tic txt par sav bwh bpr bse len mat ask hh ++ ([] : va_W)) res.1)) (own := RX5) (by decide) rfl (Nat.le_of_ble_eq_true rfl) ?_
  intro p ev s m below meth c A ls hx hb hr hml hown hts hlk hA hP hD hS hK hE hl
  have hl : lv_has ls 9 [(0, .ref (aM 0)), (1, .int p0), (2, .int p1), (3, .int p2)] := hl
  show W p l ev ({ frames := 3, cells := 0, slots := 0, locals := 71 } : Room) s m ([.ref (aM 0), .int p0, .int p1, .int p2] : List Value).toArray below meth c s.heap [] 0 0 (MQ below (qI G (ty5 cI cJ cZ cO cA) A (wM cI cJ aM row tot tab res.2 bes tic txt par sav bwh bpr bse len mat ask hh ++ ([] : va_W)) res.1) ([.ref (aM 0), .int p0, .int p1, .int p2] : List Value).toArray s 0 0 A) (F0 m 0 ls [])
  have h := hf
  unfold f_X5_suspect at h
  refine lv_iload_n hx hb dX5_suspect_0 rfl (lv_at hl 1 rfl) ?_
  obtain ⟨q1, hq1, h⟩ := bd_s h
  refine kSi (n := 1) (As := [.int p0]) (rest := []) hx hb hml hown hts (c_X5_isMeasured l G cI cJ cZ cO cA e _ p0 hq1) (tb_S kw863 kw864 kw7 kw865) rfl rfl (by decide +kernel) ⟨Nat.le_of_ble_eq_true rfl, Nat.le_of_ble_eq_true rfl⟩ hK hP hD hS hA hE rfl rfl hl.1 (Nat.le_of_ble_eq_true rfl) ⟨Nat.zero_le _, Nat.zero_le _⟩ dX5_suspect_1 (fun H locs hP hD hS => ?_)
  have hJ3 : ∀ (goa_3 : Nat → Int64) (H : Heap) (locs : List Loc) (ls : Array Slot), f_X5_suspect_j21 goa_3 = some res → va_P G vwCl (wM cI cJ aM row tot tab goa_3 bes tic txt par sav bwh bpr bse len mat ask hh ++ ([] : va_W)) H → va_D A (wM cI cJ aM row tot tab goa_3 bes tic txt par sav bwh bpr bse len mat ask hh ++ ([] : va_W)) → va_S A s.heap H locs → lv_has ls 9 [] → W p l ev ({ frames := 3, cells := 0, slots := 0, locals := 71 } : Room) s m ([.ref (aM 0), .int p0, .int p1, .int p2] : List Value).toArray below meth c H locs 0 0 (MQ below (qI G (ty5 cI cJ cZ cO cA) A (wM cI cJ aM row tot tab res.2 bes tic txt par sav bwh bpr bse len mat ask hh ++ ([] : va_W)) res.1) ([.ref (aM 0), .int p0, .int p1, .int p2] : List Value).toArray s 0 0 A) (F0 m 21 ls []) := by
    intro goa_3 H locs ls h hP hD hS hl
    unfold f_X5_suspect_j21 at h
    refine lv_ldc (v := (-2000000002)) hx hb hown (hts _ kw639) dX5_suspect_21 ?_
    rw [← Option.some.inj h]
    exact kri hx hb hr hlk rfl rfl hP hD hS hK dX5_suspect_23
  refine lv_if_eq (tgt := 21) hx hb dX5_suspect_4 (by decide) (fun c2 => ?_) (fun c2 => ?_)
  · replace h := (if_pos c2).symm.trans h
    exact hJ3 goa _ _ _ h hP hD hS (lv_sub hl [] rfl)
  · replace h := (if_neg c2).symm.trans h
    refine lv_iload_n hx hb dX5_suspect_7 rfl (lv_at hl 2 rfl) ?_
    obtain ⟨q4, hq4, h⟩ := bd_s h
    refine kSi (n := 1) (As := [.int p1]) (rest := []) hx hb hml hown hts (c_X5_isMeasured l G cI cJ cZ cO cA e _ p1 hq4) (tb_S kw863 kw864 kw7 kw865) rfl rfl (by decide +kernel) ⟨Nat.le_of_ble_eq_true rfl, Nat.le_of_ble_eq_true rfl⟩ hK hP hD hS hA hE rfl rfl hl.1 (Nat.le_of_ble_eq_true rfl) ⟨Nat.zero_le _, Nat.zero_le _⟩ dX5_suspect_8 (fun H locs hP hD hS => ?_)
    refine lv_if_eq (tgt := 21) hx hb dX5_suspect_11 (by decide) (fun c5 => ?_) (fun c5 => ?_)
    · replace h := (if_pos c5).symm.trans h
      exact hJ3 goa _ _ _ h hP hD hS (lv_sub hl [] rfl)
    · replace h := (if_neg c5).symm.trans h
      refine lv_iload_n hx hb dX5_suspect_14 rfl (lv_at hl 3 rfl) ?_
      obtain ⟨q6, hq6, h⟩ := bd_s h
      refine kSi (n := 1) (As := [.int p2]) (rest := []) hx hb hml hown hts (c_X5_isMeasured l G cI cJ cZ cO cA e _ p2 hq6) (tb_S kw863 kw864 kw7 kw865) rfl rfl (by decide +kernel) ⟨Nat.le_of_ble_eq_true rfl, Nat.le_of_ble_eq_true rfl⟩ hK hP hD hS hA hE rfl rfl hl.1 (Nat.le_of_ble_eq_true rfl) ⟨Nat.zero_le _, Nat.zero_le _⟩ dX5_suspect_15 (fun H locs hP hD hS => ?_)
      refine lv_if_ne (tgt := 24) hx hb dX5_suspect_18 (by decide) (fun c7 => ?_) (fun c7 => ?_)
      · replace h := (if_neg c7).symm.trans h
        refine lv_aload_n hx hb dX5_suspect_24 rfl (lv_at hl 0 rfl) ?_
        refine va_get (D := G) (ci := 5) (v := .ref (aM 1)) (C := RX5) (T := TX5) (N := 16) hx hb hts uX5 hown hK hP 0 rfl rfl 0 (by decide) (hts _ kw579) (fun _ h9 => h9) rfl dX5_suspect_25 ?_
        refine lv_bipush (v := 117) hx hb dX5_suspect_28 (by decide) ?_
        obtain ⟨g8, h⟩ := gd_s h
        refine va_iald hx hb hK hP 1 0 rfl rfl (ib_in g8) dX5_suspect_30 ?_
        refine lv_if_ne (tgt := 37) hx hb dX5_suspect_31 (by decide) (fun c9 => ?_) (fun c9 => ?_)
        · replace h := (if_neg c9).symm.trans h
          refine lv_aload_n hx hb dX5_suspect_37 rfl (lv_at hl 0 rfl) ?_
          refine lv_iload_n hx hb dX5_suspect_38 rfl (lv_at hl 1 rfl) ?_
          refine lv_iload_n hx hb dX5_suspect_39 rfl (lv_at hl 2 rfl) ?_
          refine lv_iload_n hx hb dX5_suspect_40 rfl (lv_at hl 3 rfl) ?_
          obtain ⟨q10, hq10, h⟩ := bd_s h
          refine kVv (n := 3) (C := RX5) (ws' := wM cI cJ aM row tot tab q10 bes tic txt par sav bwh bpr bse len mat ask hh ++ ([] : va_W)) (As := [.int p0, .int p1, .int p2]) (rest := []) hx hb hml hown hts (c_X5_aims l G cI cJ cZ cO cA e aM _ row tot tab goa bes tic txt par sav bwh bpr bse len mat ask hh p0 p1 p2 hq10) (tb_V kw749 kw751 kv27 kw7 kw752) rfl rfl (by decide +kernel) ⟨Nat.le_of_ble_eq_true rfl, Nat.le_of_ble_eq_true rfl⟩ hK hP hD hS hA hE 0 rfl rfl [0, 1, 2, 3, 4, 5, 6, 7, 8] [] rfl rfl rfl 9 ⟨rfl, rfl⟩ (by decide +kernel) (by decide +kernel) rfl rfl hl.1 (Nat.le_of_ble_eq_true rfl) ⟨Nat.zero_le _, Nat.zero_le _⟩ dX5_suspect_41 (fun H locs hP hD hS => ?_)
          refine lv_iconst (v := 1) hx hb dX5_suspect_44 (by decide) ?_
          refine lv_istore (lv' := [(4, .int 1), (0, .ref (aM 0)), (1, .int p0), (2, .int p1), (3, .int p2)]) hx hb dX5_suspect_45 hl (by decide) rfl (fun ls hl => ?_)
          refine lv_iconst (v := 0) hx hb dX5_suspect_47 (by decide) ?_
          refine lv_istore (lv' := [(5, .int 0), (4, .int 1), (0, .ref (aM 0)), (1, .int p0), (2, .int p1), (3, .int p2)]) hx hb dX5_suspect_48 hl (by decide) rfl (fun ls hl => ?_)
          obtain ⟨q11, hq11, h⟩ := bd_s h
          have hX11_0 : ∀ (x11 : Int32) (H : Heap) (locs : List Loc) (ls : Array Slot), x11 = q11 → va_P G vwCl (wM cI cJ aM row tot tab q10 bes tic txt par sav bwh bpr bse len mat ask hh ++ ([] : va_W)) H → va_D A (wM cI cJ aM row tot tab q10 bes tic txt par sav bwh bpr bse len mat ask hh ++ ([] : va_W)) → va_S A s.heap H locs → lv_has ls 9 [(0, .ref (aM 0)), (4, .int x11)] → W p l ev ({ frames := 3, cells := 0, slots := 0, locals := 71 } : Room) s m ([.ref (aM 0), .int p0, .int p1, .int p2] : List Value).toArray below meth c H locs 0 0 (MQ below (qI G (ty5 cI cJ cZ cO cA) A (wM cI cJ aM row tot tab res.2 bes tic txt par sav bwh bpr bse len mat ask hh ++ ([] : va_W)) res.1) ([.ref (aM 0), .int p0, .int p1, .int p2] : List Value).toArray s 0 0 A) (F0 m 96 ls []) := by
            intro x11 H locs ls e11 hP hD hS hl
            replace e11 := e11.symm
            subst e11
            refine lv_iload hx hb dX5_suspect_96 (lv_at hl 1 rfl) ?_
            refine lv_if_eq (tgt := 103) hx hb dX5_suspect_98 (by decide) (fun c19 => ?_) (fun c19 => ?_)
            · replace h := (if_pos c19).symm.trans h
              refine lv_iconst (v := 0) hx hb dX5_suspect_103 (by decide) ?_
              refine lv_istore (lv' := [(5, .int 0), (0, .ref (aM 0)), (4, .int q11)]) hx hb dX5_suspect_104 hl (by decide) rfl (fun ls hl => ?_)
              obtain ⟨q20, hq20, h⟩ := bd_s h
              have hX20_0 : ∀ (t20 : Int32 × Int32) (H : Heap) (locs : List Loc) (ls : Array Slot), Sum.inl t20 = q20 → va_P G vwCl (wM cI cJ aM row tot tab q10 bes tic txt par sav bwh bpr bse len mat ask hh ++ ([] : va_W)) H → va_D A (wM cI cJ aM row tot tab q10 bes tic txt par sav bwh bpr bse len mat ask hh ++ ([] : va_W)) → va_S A s.heap H locs → lv_has ls 9 [(5, .int t20.1), (6, .int t20.2)] → W p l ev ({ frames := 3, cells := 0, slots := 0, locals := 71 } : Room) s m ([.ref (aM 0), .int p0, .int p1, .int p2] : List Value).toArray below meth c H locs 0 0 (MQ below (qI G (ty5 cI cJ cZ cO cA) A (wM cI cJ aM row tot tab res.2 bes tic txt par sav bwh bpr bse len mat ask hh ++ ([] : va_W)) res.1) ([.ref (aM 0), .int p0, .int p1, .int p2] : List Value).toArray s 0 0 A) (F0 m 209 ls []) := by
                intro t20 H locs ls e20 hP hD hS hl
                rw [← e20] at h
                replace h := se_l h
                refine lv_iload hx hb dX5_suspect_209 (lv_at hl 0 rfl) ?_
                refine lv_bipush (v := 8) hx hb dX5_suspect_211 (by decide) ?_
                have hJ37 : ∀ (goa_37 : Nat → Int64) (v6_37 : Int32) (t0_37 : Int32) (H : Heap) (locs : List Loc) (ls : Array Slot), f_X5_suspect_j224 goa_37 v6_37 t0_37 = some res → va_P G vwCl (wM cI cJ aM row tot tab goa_37 bes tic txt par sav bwh bpr bse len mat ask hh ++ ([] : va_W)) H → va_D A (wM cI cJ aM row tot tab goa_37 bes tic txt par sav bwh bpr bse len mat ask hh ++ ([] : va_W)) → va_S A s.heap H locs → lv_has ls 9 [(6, .int v6_37)] → W p l ev ({ frames := 3, cells := 0, slots := 0, locals := 71 } : Room) s m ([.ref (aM 0), .int p0, .int p1, .int p2] : List Value).toArray below meth c H locs 0 0 (MQ below (qI G (ty5 cI cJ cZ cO cA) A (wM cI cJ aM row tot tab res.2 bes tic txt par sav bwh bpr bse len mat ask hh ++ ([] : va_W)) res.1) ([.ref (aM 0), .int p0, .int p1, .int p2] : List Value).toArray s 0 0 A) (F0 m 224 ls [.int t0_37]) := by
                  intro goa_37 v6_37 t0_37 H locs ls h hP hD hS hl
                  unfold f_X5_suspect_j224 at h
                  refine lv_iload hx hb dX5_suspect_224 (lv_at hl 0 rfl) ?_
                  refine lv_iadd hx hb dX5_suspect_226 ?_
                  rw [← Option.some.inj h]
                  exact kri hx hb hr hlk rfl rfl hP hD hS hK dX5_suspect_227
                refine lv_icmp_ge (tgt := 221) hx hb dX5_suspect_213 (by decide) (fun c36 => ?_) (fun c36 => ?_)
                · replace h := (if_pos c36).symm.trans h
                  refine lv_sipush (v := 200) hx hb dX5_suspect_221 (by decide) ?_
                  exact hJ37 q10 t20.2 200 _ _ _ h hP hD hS (lv_sub hl [1] rfl)
                · replace h := (if_neg c36).symm.trans h
                  refine lv_bipush (v := 100) hx hb dX5_suspect_216 (by decide) ?_
                  refine lv_goto (tgt := 224) hx hb dX5_suspect_218 (by decide) ?_
                  exact hJ37 q10 t20.2 100 _ _ _ h hP hD hS (lv_sub hl [1] rfl)
              have hX20_1 : ∀ (t20 : Unit) (H : Heap) (locs : List Loc) (ls : Array Slot), Sum.inr t20 = q20 → va_P G vwCl (wM cI cJ aM row tot tab q10 bes tic txt par sav bwh bpr bse len mat ask hh ++ ([] : va_W)) H → va_D A (wM cI cJ aM row tot tab q10 bes tic txt par sav bwh bpr bse len mat ask hh ++ ([] : va_W)) → va_S A s.heap H locs → lv_has ls 9 [] → W p l ev ({ frames := 3, cells := 0, slots := 0, locals := 71 } : Room) s m ([.ref (aM 0), .int p0, .int p1, .int p2] : List Value).toArray below meth c H locs 0 0 (MQ below (qI G (ty5 cI cJ cZ cO cA) A (wM cI cJ aM row tot tab res.2 bes tic txt par sav bwh bpr bse len mat ask hh ++ ([] : va_W)) res.1) ([.ref (aM 0), .int p0, .int p1, .int p2] : List Value).toArray s 0 0 A) (F0 m 234 ls []) := by
                intro t20 H locs ls e20 hP hD hS hl
                rw [← e20] at h
                replace h := se_r h
                refine lv_ldc (v := (-2000000000)) hx hb hown (hts _ kw769) dX5_suspect_234 ?_
                rw [← Option.some.inj h]
                exact kri hx hb hr hlk rfl rfl hP hD hS hK dX5_suspect_236
              have hL20 : ∀ (n : Nat) (z20 : Int32) (H : Heap) (locs : List Loc) (ls : Array Slot), lp (f_X5_suspect_b106 row q10) n z20 = some q20 → va_P G vwCl (wM cI cJ aM row tot tab q10 bes tic txt par sav bwh bpr bse len mat ask hh ++ ([] : va_W)) H → va_D A (wM cI cJ aM row tot tab q10 bes tic txt par sav bwh bpr bse len mat ask hh ++ ([] : va_W)) → va_S A s.heap H locs → lv_has ls 9 [(0, .ref (aM 0)), (5, .int z20)] → W p l ev ({ frames := 3, cells := 0, slots := 0, locals := 71 } : Room) s m ([.ref (aM 0), .int p0, .int p1, .int p2] : List Value).toArray below meth c H locs 0 0 (MQ below (qI G (ty5 cI cJ cZ cO cA) A (wM cI cJ aM row tot tab res.2 bes tic txt par sav bwh bpr bse len mat ask hh ++ ([] : va_W)) res.1) ([.ref (aM 0), .int p0, .int p1, .int p2] : List Value).toArray s 0 0 A) (F0 m 106 ls []) := by
                intro n
                induction n with
                | zero => intro z20 H locs ls h; cases h
                | succ n ih20 =>
                  intro z20 H locs ls h hP hD hS hl
                  obtain ⟨o20, h, h20⟩ := lp_s h
                  unfold f_X5_suspect_b106 at h
                  refine lv_iload hx hb dX5_suspect_106 (lv_at hl 1 rfl) ?_
                  refine lv_bipush (v := 16) hx hb dX5_suspect_108 (by decide) ?_
                  refine lv_icmp_ge (tgt := 234) hx hb dX5_suspect_110 (by decide) (fun c21 => ?_) (fun c21 => ?_)
                  · replace h := (if_pos c21).symm.trans h
                    rw [← Option.some.inj h] at h20
                    exact hX20_1 () _ _ _ (lp_x h20) hP hD hS (lv_sub hl [] rfl)
                  · replace h := (if_neg c21).symm.trans h
                    refine lv_iload hx hb dX5_suspect_113 (lv_at hl 1 rfl) ?_
                    refine lv_bipush (v := 8) hx hb dX5_suspect_115 (by decide) ?_
                    refine lv_irem hx hb dX5_suspect_117 (by decide) ?_
                    refine lv_istore (lv' := [(6, .int (z20 - z20 / 8 * 8)), (0, .ref (aM 0)), (5, .int z20)]) hx hb dX5_suspect_118 hl (by decide) rfl (fun ls hl => ?_)
                    refine lv_aload_n hx hb dX5_suspect_120 rfl (lv_at hl 1 rfl) ?_
                    refine va_get (D := G) (ci := 5) (v := .ref (aM 1)) (C := RX5) (T := TX5) (N := 16) hx hb hts uX5 hown hK hP 0 rfl rfl 0 (by decide) (hts _ kw579) (fun _ h9 => h9) rfl dX5_suspect_121 ?_
                    refine lv_bipush (v := 116) hx hb dX5_suspect_124 (by decide) ?_
                    obtain ⟨g23, h⟩ := gd_s h
                    refine va_iald hx hb hK hP 1 0 rfl rfl (ib_in g23) dX5_suspect_126 ?_
                    refine lv_iload hx hb dX5_suspect_127 (lv_at hl 0 rfl) ?_
                    refine lv_ishr hx hb dX5_suspect_129 ?_
                    refine lv_iconst (v := 1) hx hb dX5_suspect_130 (by decide) ?_
                    refine lv_iand hx hb dX5_suspect_131 ?_
                    refine lv_iconst (v := 1) hx hb dX5_suspect_132 (by decide) ?_
                    have hJ25 : ∀ (v5_25 : Int32) (v6_25 : Int32) (t0_25 : Int32) (H : Heap) (locs : List Loc) (ls : Array Slot), f_X5_suspect_j141 row q10 v5_25 v6_25 t0_25 = some o20 → va_P G vwCl (wM cI cJ aM row tot tab q10 bes tic txt par sav bwh bpr bse len mat ask hh ++ ([] : va_W)) H → va_D A (wM cI cJ aM row tot tab q10 bes tic txt par sav bwh bpr bse len mat ask hh ++ ([] : va_W)) → va_S A s.heap H locs → lv_has ls 9 [(0, .ref (aM 0)), (5, .int v5_25), (6, .int v6_25)] → W p l ev ({ frames := 3, cells := 0, slots := 0, locals := 71 } : Room) s m ([.ref (aM 0), .int p0, .int p1, .int p2] : List Value).toArray below meth c H locs 0 0 (MQ below (qI G (ty5 cI cJ cZ cO cA) A (wM cI cJ aM row tot tab res.2 bes tic txt par sav bwh bpr bse len mat ask hh ++ ([] : va_W)) res.1) ([.ref (aM 0), .int p0, .int p1, .int p2] : List Value).toArray s 0 0 A) (F0 m 141 ls [.int t0_25]) := by
                      intro v5_25 v6_25 t0_25 H locs ls h hP hD hS hl
                      unfold f_X5_suspect_j141 at h
                      refine lv_istore (lv' := [(7, .int t0_25), (0, .ref (aM 0)), (5, .int v5_25), (6, .int v6_25)]) hx hb dX5_suspect_141 hl (by decide) rfl (fun ls hl => ?_)
                      refine lv_aload_n hx hb dX5_suspect_143 rfl (lv_at hl 1 rfl) ?_
                      refine va_get (D := G) (ci := 5) (v := .ref (aM 1)) (C := RX5) (T := TX5) (N := 16) hx hb hts uX5 hown hK hP 0 rfl rfl 0 (by decide) (hts _ kw579) (fun _ h9 => h9) rfl dX5_suspect_144 ?_
                      refine lv_bipush (v := 108) hx hb dX5_suspect_147 (by decide) ?_
                      refine lv_iload hx hb dX5_suspect_149 (lv_at hl 3 rfl) ?_
                      refine lv_iadd hx hb dX5_suspect_151 ?_
                      obtain ⟨g26, h⟩ := gd_s h
                      refine va_iald hx hb hK hP 1 0 rfl rfl (ib_in g26) dX5_suspect_152 ?_
                      refine lv_istore (lv' := [(8, .int (row (108 + v6_25).toNatClampNeg)), (7, .int t0_25), (0, .ref (aM 0)), (5, .int v5_25), (6, .int v6_25)]) hx hb dX5_suspect_153 hl (by decide) rfl (fun ls hl => ?_)
                      refine lv_iload hx hb dX5_suspect_155 (lv_at hl 1 rfl) ?_
                      refine lv_if_eq (tgt := 228) hx hb dX5_suspect_157 (by decide) (fun c27 => ?_) (fun c27 => ?_)
                      · replace h := (if_pos c27).symm.trans h
                        refine lv_iinc (v := (v5_25 + 1)) (lv' := [(5, .int (v5_25 + 1)), (8, .int (row (108 + v6_25).toNatClampNeg)), (7, .int t0_25), (0, .ref (aM 0)), (6, .int v6_25)]) hx hb dX5_suspect_228 hl (k := 3) rfl rfl (by decide) rfl (fun ls hl => ?_)
                        refine lv_goto (tgt := 106) hx hb dX5_suspect_231 (by decide) ?_
                        rw [← Option.some.inj h] at h20
                        exact ih20 (v5_25 + 1) _ _ _ (lp_b h20) hP hD hS (lv_sub hl [3, 0] rfl)
                      · replace h := (if_neg c27).symm.trans h
                        refine lv_iload hx hb dX5_suspect_160 (lv_at hl 3 rfl) ?_
                        refine lv_bipush (v := 8) hx hb dX5_suspect_162 (by decide) ?_
                        have hJ29 : ∀ (v5_29 : Int32) (v6_29 : Int32) (v8_29 : Int32) (H : Heap) (locs : List Loc) (ls : Array Slot), f_X5_suspect_j182 row q10 v5_29 v6_29 v8_29 = some o20 → va_P G vwCl (wM cI cJ aM row tot tab q10 bes tic txt par sav bwh bpr bse len mat ask hh ++ ([] : va_W)) H → va_D A (wM cI cJ aM row tot tab q10 bes tic txt par sav bwh bpr bse len mat ask hh ++ ([] : va_W)) → va_S A s.heap H locs → lv_has ls 9 [(0, .ref (aM 0)), (5, .int v5_29), (6, .int v6_29), (8, .int v8_29)] → W p l ev ({ frames := 3, cells := 0, slots := 0, locals := 71 } : Room) s m ([.ref (aM 0), .int p0, .int p1, .int p2] : List Value).toArray below meth c H locs 0 0 (MQ below (qI G (ty5 cI cJ cZ cO cA) A (wM cI cJ aM row tot tab res.2 bes tic txt par sav bwh bpr bse len mat ask hh ++ ([] : va_W)) res.1) ([.ref (aM 0), .int p0, .int p1, .int p2] : List Value).toArray s 0 0 A) (F0 m 182 ls []) := by
                          intro v5_29 v6_29 v8_29 H locs ls h hP hD hS hl
                          unfold f_X5_suspect_j182 at h
                          refine lv_aload_n hx hb dX5_suspect_182 rfl (lv_at hl 0 rfl) ?_
                          refine lv_iload hx hb dX5_suspect_183 (lv_at hl 2 rfl) ?_
                          refine lv_iload hx hb dX5_suspect_185 (lv_at hl 1 rfl) ?_
                          refine lv_bipush (v := 8) hx hb dX5_suspect_187 (by decide) ?_
                          have hJ31 : ∀ (v5_31 : Int32) (v6_31 : Int32) (t0_31 : Int32) (t1_31 : Int32) (H : Heap) (locs : List Loc) (ls : Array Slot), f_X5_suspect_j203 row q10 v5_31 v6_31 t0_31 t1_31 = some o20 → va_P G vwCl (wM cI cJ aM row tot tab q10 bes tic txt par sav bwh bpr bse len mat ask hh ++ ([] : va_W)) H → va_D A (wM cI cJ aM row tot tab q10 bes tic txt par sav bwh bpr bse len mat ask hh ++ ([] : va_W)) → va_S A s.heap H locs → lv_has ls 9 [(0, .ref (aM 0)), (5, .int v5_31), (6, .int v6_31)] → W p l ev ({ frames := 3, cells := 0, slots := 0, locals := 71 } : Room) s m ([.ref (aM 0), .int p0, .int p1, .int p2] : List Value).toArray below meth c H locs 0 0 (MQ below (qI G (ty5 cI cJ cZ cO cA) A (wM cI cJ aM row tot tab res.2 bes tic txt par sav bwh bpr bse len mat ask hh ++ ([] : va_W)) res.1) ([.ref (aM 0), .int p0, .int p1, .int p2] : List Value).toArray s 0 0 A) (F0 m 203 ls [.int t0_31, .int t1_31, .ref (aM 0)]) := by
                            intro v5_31 v6_31 t0_31 t1_31 H locs ls h hP hD hS hl
                            unfold f_X5_suspect_j203 at h
                            obtain ⟨q32, hq32, h⟩ := bd_s h
                            refine kVi (n := 2) (C := RX5) (ws' := wM cI cJ aM row tot tab q10 bes tic txt par sav bwh bpr bse len mat ask hh ++ ([] : va_W)) (As := [.int t1_31, .int t0_31]) (rest := []) hx hb hml hown hts (c_X5_explains l G cI cJ cZ cO cA e aM _ row tot tab q10 bes tic txt par sav bwh bpr bse len mat ask hh t1_31 t0_31 hq32) (tb_V kw868 kw870 kv38 kw7 kw871) rfl rfl (by decide +kernel) ⟨Nat.le_of_ble_eq_true rfl, Nat.le_of_ble_eq_true rfl⟩ hK hP hD hS hA hE 0 rfl rfl [0, 1, 2, 3, 4, 5, 6, 7, 8] [] rfl rfl rfl 9 ⟨rfl, rfl⟩ (by decide +kernel) (by decide +kernel) rfl rfl hl.1 (Nat.le_of_ble_eq_true rfl) ⟨Nat.zero_le _, Nat.zero_le _⟩ dX5_suspect_203 (fun H locs hP hD hS => ?_)
                            refine lv_if_eq (tgt := 228) hx hb dX5_suspect_206 (by decide) (fun c33 => ?_) (fun c33 => ?_)
                            · replace h := (if_pos c33).symm.trans h
                              refine lv_iinc (v := (v5_31 + 1)) (lv' := [(5, .int (v5_31 + 1)), (0, .ref (aM 0)), (6, .int v6_31)]) hx hb dX5_suspect_228 hl (k := 1) rfl rfl (by decide) rfl (fun ls hl => ?_)
                              refine lv_goto (tgt := 106) hx hb dX5_suspect_231 (by decide) ?_
                              rw [← Option.some.inj h] at h20
                              exact ih20 (v5_31 + 1) _ _ _ (lp_b h20) hP hD hS (lv_sub hl [1, 0] rfl)
                            · replace h := (if_neg c33).symm.trans h
                              rw [← Option.some.inj h] at h20
                              exact hX20_0 (v5_31, v6_31) _ _ _ (lp_x h20) hP hD hS (lv_sub hl [1, 2] rfl)
                          refine lv_icmp_ge (tgt := 198) hx hb dX5_suspect_189 (by decide) (fun c30 => ?_) (fun c30 => ?_)
                          · replace h := (if_pos c30).symm.trans h
                            refine lv_bipush (v := 20) hx hb dX5_suspect_198 (by decide) ?_
                            refine lv_iload hx hb dX5_suspect_200 (lv_at hl 3 rfl) ?_
                            refine lv_isub hx hb dX5_suspect_202 ?_
                            exact hJ31 v5_29 v6_29 (20 - v8_29) v6_29 _ _ _ h hP hD hS (lv_sub hl [0, 1, 2] rfl)
                          · replace h := (if_neg c30).symm.trans h
                            refine lv_iload hx hb dX5_suspect_192 (lv_at hl 3 rfl) ?_
                            refine lv_ineg hx hb dX5_suspect_194 ?_
                            refine lv_goto (tgt := 203) hx hb dX5_suspect_195 (by decide) ?_
                            exact hJ31 v5_29 v6_29 (-v8_29) v6_29 _ _ _ h hP hD hS (lv_sub hl [0, 1, 2] rfl)
                        refine lv_icmp_ge (tgt := 175) hx hb dX5_suspect_164 (by decide) (fun c28 => ?_) (fun c28 => ?_)
                        · replace h := (if_pos c28).symm.trans h
                          refine lv_iload hx hb dX5_suspect_175 (lv_at hl 0 rfl) ?_
                          refine lv_bipush (v := 20) hx hb dX5_suspect_177 (by decide) ?_
                          refine lv_icmp_ge (tgt := 228) hx hb dX5_suspect_179 (by decide) (fun c34 => ?_) (fun c34 => ?_)
                          · replace h := (if_pos c34).symm.trans h
                            refine lv_iinc (v := (v5_25 + 1)) (lv' := [(5, .int (v5_25 + 1)), (8, .int (row (108 + v6_25).toNatClampNeg)), (7, .int t0_25), (0, .ref (aM 0)), (6, .int v6_25)]) hx hb dX5_suspect_228 hl (k := 3) rfl rfl (by decide) rfl (fun ls hl => ?_)
                            refine lv_goto (tgt := 106) hx hb dX5_suspect_231 (by decide) ?_
                            rw [← Option.some.inj h] at h20
                            exact ih20 (v5_25 + 1) _ _ _ (lp_b h20) hP hD hS (lv_sub hl [3, 0] rfl)
                          · replace h := (if_neg c34).symm.trans h
                            exact hJ29 v5_25 v6_25 (row (108 + v6_25).toNatClampNeg) _ _ _ h hP hD hS (lv_sub hl [2, 3, 4, 0] rfl)
                        · replace h := (if_neg c28).symm.trans h
                          refine lv_iload hx hb dX5_suspect_167 (lv_at hl 0 rfl) ?_
                          refine lv_if_le (tgt := 228) hx hb dX5_suspect_169 (by decide) (fun c35 => ?_) (fun c35 => ?_)
                          · replace h := (if_pos c35).symm.trans h
                            refine lv_iinc (v := (v5_25 + 1)) (lv' := [(5, .int (v5_25 + 1)), (8, .int (row (108 + v6_25).toNatClampNeg)), (7, .int t0_25), (0, .ref (aM 0)), (6, .int v6_25)]) hx hb dX5_suspect_228 hl (k := 3) rfl rfl (by decide) rfl (fun ls hl => ?_)
                            refine lv_goto (tgt := 106) hx hb dX5_suspect_231 (by decide) ?_
                            rw [← Option.some.inj h] at h20
                            exact ih20 (v5_25 + 1) _ _ _ (lp_b h20) hP hD hS (lv_sub hl [3, 0] rfl)
                          · replace h := (if_neg c35).symm.trans h
                            refine lv_goto (tgt := 182) hx hb dX5_suspect_172 (by decide) ?_
                            exact hJ29 v5_25 v6_25 (row (108 + v6_25).toNatClampNeg) _ _ _ h hP hD hS (lv_sub hl [2, 3, 4, 0] rfl)
                    refine lv_icmp_ne (tgt := 140) hx hb dX5_suspect_133 (by decide) (fun c24 => ?_) (fun c24 => ?_)
                    · replace h := (if_neg c24).symm.trans h
                      refine lv_iconst (v := 0) hx hb dX5_suspect_140 (by decide) ?_
                      exact hJ25 z20 (z20 - z20 / 8 * 8) 0 _ _ _ h hP hD hS (lv_sub hl [1, 2, 0] rfl)
                    · replace h := (if_pos c24).symm.trans h
                      refine lv_iconst (v := 1) hx hb dX5_suspect_136 (by decide) ?_
                      refine lv_goto (tgt := 141) hx hb dX5_suspect_137 (by decide) ?_
                      exact hJ25 z20 (z20 - z20 / 8 * 8) 1 _ _ _ h hP hD hS (lv_sub hl [1, 2, 0] rfl)
              exact hL20 _ 0 _ _ _ hq20 hP hD hS (lv_sub hl [1, 0] rfl)
            · replace h := (if_neg c19).symm.trans h
              refine lv_iconst (v := 0) hx hb dX5_suspect_101 (by decide) ?_
              rw [← Option.some.inj h]
              exact kri hx hb hr hlk rfl rfl hP hD hS hK dX5_suspect_102
          have hL11 : ∀ (n : Nat) (z11 : Int32 × Int32) (H : Heap) (locs : List Loc) (ls : Array Slot), lp (f_X5_suspect_b50 row q10) n z11 = some q11 → va_P G vwCl (wM cI cJ aM row tot tab q10 bes tic txt par sav bwh bpr bse len mat ask hh ++ ([] : va_W)) H → va_D A (wM cI cJ aM row tot tab q10 bes tic txt par sav bwh bpr bse len mat ask hh ++ ([] : va_W)) → va_S A s.heap H locs → lv_has ls 9 [(0, .ref (aM 0)), (4, .int z11.1), (5, .int z11.2)] → W p l ev ({ frames := 3, cells := 0, slots := 0, locals := 71 } : Room) s m ([.ref (aM 0), .int p0, .int p1, .int p2] : List Value).toArray below meth c H locs 0 0 (MQ below (qI G (ty5 cI cJ cZ cO cA) A (wM cI cJ aM row tot tab res.2 bes tic txt par sav bwh bpr bse len mat ask hh ++ ([] : va_W)) res.1) ([.ref (aM 0), .int p0, .int p1, .int p2] : List Value).toArray s 0 0 A) (F0 m 50 ls []) := by
            intro n
            induction n with
            | zero => intro z11 H locs ls h; cases h
            | succ n ih11 =>
              intro z11 H locs ls h hP hD hS hl
              obtain ⟨o11, h, h11⟩ := lp_s h
              unfold f_X5_suspect_b50 at h
              refine lv_iload hx hb dX5_suspect_50 (lv_at hl 2 rfl) ?_
              refine lv_iconst (v := 3) hx hb dX5_suspect_52 (by decide) ?_
              refine lv_icmp_ge (tgt := 96) hx hb dX5_suspect_53 (by decide) (fun c12 => ?_) (fun c12 => ?_)
              · replace h := (if_pos c12).symm.trans h
                rw [← Option.some.inj h] at h11
                exact hX11_0 z11.1 _ _ _ (lp_x h11) hP hD hS (lv_sub hl [0, 1] rfl)
              · replace h := (if_neg c12).symm.trans h
                refine lv_iload hx hb dX5_suspect_56 (lv_at hl 1 rfl) ?_
                have hJ14 : ∀ (v5_14 : Int32) (t0_14 : Int32) (H : Heap) (locs : List Loc) (ls : Array Slot), f_X5_suspect_j88 v5_14 t0_14 = some o11 → va_P G vwCl (wM cI cJ aM row tot tab q10 bes tic txt par sav bwh bpr bse len mat ask hh ++ ([] : va_W)) H → va_D A (wM cI cJ aM row tot tab q10 bes tic txt par sav bwh bpr bse len mat ask hh ++ ([] : va_W)) → va_S A s.heap H locs → lv_has ls 9 [(0, .ref (aM 0)), (5, .int v5_14)] → W p l ev ({ frames := 3, cells := 0, slots := 0, locals := 71 } : Room) s m ([.ref (aM 0), .int p0, .int p1, .int p2] : List Value).toArray below meth c H locs 0 0 (MQ below (qI G (ty5 cI cJ cZ cO cA) A (wM cI cJ aM row tot tab res.2 bes tic txt par sav bwh bpr bse len mat ask hh ++ ([] : va_W)) res.1) ([.ref (aM 0), .int p0, .int p1, .int p2] : List Value).toArray s 0 0 A) (F0 m 88 ls [.int t0_14]) := by
                  intro v5_14 t0_14 H locs ls h hP hD hS hl
                  unfold f_X5_suspect_j88 at h
                  refine lv_istore (lv' := [(4, .int t0_14), (0, .ref (aM 0)), (5, .int v5_14)]) hx hb dX5_suspect_88 hl (by decide) rfl (fun ls hl => ?_)
                  refine lv_iinc (v := (v5_14 + 1)) (lv' := [(5, .int (v5_14 + 1)), (4, .int t0_14), (0, .ref (aM 0))]) hx hb dX5_suspect_90 hl (k := 2) rfl rfl (by decide) rfl (fun ls hl => ?_)
                  refine lv_goto (tgt := 50) hx hb dX5_suspect_93 (by decide) ?_
                  rw [← Option.some.inj h] at h11
                  exact ih11 (t0_14, (v5_14 + 1)) _ _ _ (lp_b h11) hP hD hS (lv_sub hl [2, 1, 0] rfl)
                have hJ15 : ∀ (v5_15 : Int32) (H : Heap) (locs : List Loc) (ls : Array Slot), f_X5_suspect_j87 v5_15 = some o11 → va_P G vwCl (wM cI cJ aM row tot tab q10 bes tic txt par sav bwh bpr bse len mat ask hh ++ ([] : va_W)) H → va_D A (wM cI cJ aM row tot tab q10 bes tic txt par sav bwh bpr bse len mat ask hh ++ ([] : va_W)) → va_S A s.heap H locs → lv_has ls 9 [(0, .ref (aM 0)), (5, .int v5_15)] → W p l ev ({ frames := 3, cells := 0, slots := 0, locals := 71 } : Room) s m ([.ref (aM 0), .int p0, .int p1, .int p2] : List Value).toArray below meth c H locs 0 0 (MQ below (qI G (ty5 cI cJ cZ cO cA) A (wM cI cJ aM row tot tab res.2 bes tic txt par sav bwh bpr bse len mat ask hh ++ ([] : va_W)) res.1) ([.ref (aM 0), .int p0, .int p1, .int p2] : List Value).toArray s 0 0 A) (F0 m 87 ls []) := by
                  intro v5_15 H locs ls h hP hD hS hl
                  unfold f_X5_suspect_j87 at h
                  refine lv_iconst (v := 0) hx hb dX5_suspect_87 (by decide) ?_
                  exact hJ14 v5_15 0 _ _ _ h hP hD hS (lv_sub hl [0, 1] rfl)
                refine lv_if_eq (tgt := 87) hx hb dX5_suspect_58 (by decide) (fun c13 => ?_) (fun c13 => ?_)
                · replace h := (if_pos c13).symm.trans h
                  exact hJ15 z11.2 _ _ _ h hP hD hS (lv_sub hl [0, 2] rfl)
                · replace h := (if_neg c13).symm.trans h
                  refine lv_aload_n hx hb dX5_suspect_61 rfl (lv_at hl 0 rfl) ?_
                  refine va_get (D := G) (ci := 5) (v := .ref (aM 1)) (C := RX5) (T := TX5) (N := 16) hx hb hts uX5 hown hK hP 0 rfl rfl 0 (by decide) (hts _ kw579) (fun _ h9 => h9) rfl dX5_suspect_62 ?_
                  refine lv_bipush (v := 102) hx hb dX5_suspect_65 (by decide) ?_
                  refine lv_iload hx hb dX5_suspect_67 (lv_at hl 2 rfl) ?_
                  refine lv_iadd hx hb dX5_suspect_69 ?_
                  obtain ⟨g16, h⟩ := gd_s h
                  refine va_iald hx hb hK hP 1 0 rfl rfl (ib_in g16) dX5_suspect_70 ?_
                  refine lv_i2l (v := (row (102 + z11.2).toNatClampNeg).toInt64) hx hb dX5_suspect_71 rfl ?_
                  refine lv_aload_n hx hb dX5_suspect_72 rfl (lv_at hl 0 rfl) ?_
                  refine va_get (D := G) (ci := 5) (v := .ref (aM 4)) (C := RX5) (T := TX5) (N := 16) hx hb hts uX5 hown hK hP 0 rfl rfl 4 (by decide) (hts _ kw583) (fun _ h9 => h9) rfl dX5_suspect_73 ?_
                  refine lv_iload hx hb dX5_suspect_76 (lv_at hl 2 rfl) ?_
                  obtain ⟨g17, h⟩ := gd_s h
                  refine va_lald hx hb hK hP 4 1 rfl rfl (ib_in g17) dX5_suspect_78 ?_
                  refine W.lcmp hx hb dX5_suspect_79 ?_
                  refine lv_if_ne (tgt := 87) hx hb dX5_suspect_80 (by decide) (fun c18 => ?_) (fun c18 => ?_)
                  · replace h := (if_neg c18).symm.trans h
                    exact hJ15 z11.2 _ _ _ h hP hD hS (lv_sub hl [0, 2] rfl)
                  · replace h := (if_pos c18).symm.trans h
                    refine lv_iconst (v := 1) hx hb dX5_suspect_83 (by decide) ?_
                    refine lv_goto (tgt := 88) hx hb dX5_suspect_84 (by decide) ?_
                    exact hJ14 z11.2 1 _ _ _ h hP hD hS (lv_sub hl [0, 2] rfl)
          exact hL11 _ (1, 0) _ _ _ hq11 hP hD hS (lv_sub hl [2, 1, 0] rfl)
        · replace h := (if_pos c9).symm.trans h
          refine lv_ldc (v := (-2000000003)) hx hb hown (hts _ kw723) dX5_suspect_34 ?_
          rw [← Option.some.inj h]
          exact kri hx hb hr hlk rfl rfl hP hD hS hK dX5_suspect_36
      · replace h := (if_pos c7).symm.trans h
        exact hJ3 goa _ _ _ h hP hD hS (lv_sub hl [] rfl)

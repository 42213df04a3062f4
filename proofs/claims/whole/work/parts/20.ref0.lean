/-! X5_in -/
def f_X5_in (p0 : Int32) (p1 : Int32) (p2 : Int32) : Option (Int32) :=
  if p0 < p1 then (some 0) else (if p2 < p0 then (some 0) else (some 1))

set_option maxHeartbeats 4000000 in
set_option maxRecDepth 100000 in
theorem c_X5_in (l : Launch) (G : va_G) (cI cJ cZ cO cA : ClassId) (e : Nat × Nat) (sz : Nat) (p0 : Int32) (p1 : Int32) (p2 : Int32) {res : Int32} (hf : f_X5_in p0 p1 p2 = some res) : MetI l yX5_in cX5_in 3 .boolean ({ frames := 0, cells := 0, slots := 0, locals := 0 } : Room) [.int p0, .int p1, .int p2] G (ty5 cI cJ cZ cO cA) e (([] : va_W)) (([] : va_W)) sz res := by
  refine g_body (QQ := fun A => (qI G (ty5 cI cJ cZ cO cA) A (([] : va_W)) res)) (own := RX5) (by decide) rfl (Nat.le_of_ble_eq_true rfl) ?_
  intro p ev s m below meth c A ls hx hb hr hml hown hts hlk hA hP hD hS hK hE hl
  have hl : lv_has ls 3 [(0, .int p0), (1, .int p1), (2, .int p2)] := hl
  show W p l ev ({ frames := 0, cells := 0, slots := 0, locals := 0 } : Room) s m ([.int p0, .int p1, .int p2] : List Value).toArray below meth c s.heap [] 0 0 (MQ below (qI G (ty5 cI cJ cZ cO cA) A (([] : va_W)) res) ([.int p0, .int p1, .int p2] : List Value).toArray s 0 0 A) (F0 m 0 ls [])
  have h := hf
  unfold f_X5_in at h
  refine lv_iload_n hx hb dX5_in_0 rfl (lv_at hl 0 rfl) ?_
  refine lv_iload_n hx hb dX5_in_1 rfl (lv_at hl 1 rfl) ?_
  refine lv_icmp_lt (tgt := 14) hx hb dX5_in_2 (by decide) (fun c1 => ?_) (fun c1 => ?_)
  · replace h := (if_pos c1).symm.trans h
    refine lv_iconst (v := 0) hx hb dX5_in_14 (by decide) ?_
    rw [← Option.some.inj h]
    exact kri hx hb hr hlk rfl rfl hP hD hS hK dX5_in_15
  · replace h := (if_neg c1).symm.trans h
    refine lv_iload_n hx hb dX5_in_5 rfl (lv_at hl 0 rfl) ?_
    refine lv_iload_n hx hb dX5_in_6 rfl (lv_at hl 2 rfl) ?_
    refine lv_icmp_gt (tgt := 14) hx hb dX5_in_7 (by decide) (fun c2 => ?_) (fun c2 => ?_)
    · replace h := (if_pos c2).symm.trans h
      refine lv_iconst (v := 0) hx hb dX5_in_14 (by decide) ?_
      rw [← Option.some.inj h]
      exact kri hx hb hr hlk rfl rfl hP hD hS hK dX5_in_15
    · replace h := (if_neg c2).symm.trans h
      refine lv_iconst (v := 1) hx hb dX5_in_10 (by decide) ?_
      refine lv_goto (tgt := 15) hx hb dX5_in_11 (by decide) ?_
      rw [← Option.some.inj h]
      exact kri hx hb hr hlk rfl rfl hP hD hS hK dX5_in_15

/-! X5_copies -/
def f_X5_copies_b2 (v1 : Int32) (v2 : Int32) (z1 : (Nat → Int32) × Int32) : Option (((Nat → Int32) × Int32) ⊕ ((Nat → Int32))) :=
  if 118 ≤ z1.2 then (some (Sum.inr z1.1)) else (gd (ib ((118 * v1) + z1.2) 708) (gd (ib ((118 * v2) + z1.2) 708) (some (Sum.inl ((upd z1.1 ((118 * v2) + z1.2).toNatClampNeg (z1.1 ((118 * v1) + z1.2).toNatClampNeg)), (z1.2 + 1))))))
def f_X5_copies_b38 (v1 : Int32) (v2 : Int32) (z5 : (Nat → Int64) × Int32) : Option (((Nat → Int64) × Int32) ⊕ ((Nat → Int64))) :=
  if 3 ≤ z5.2 then (some (Sum.inr z5.1)) else (gd (ib ((3 * v1) + z5.2) 18) (gd (ib ((3 * v2) + z5.2) 18) (some (Sum.inl ((vp_updL z5.1 ((3 * v2) + z5.2).toNatClampNeg (z5.1 ((3 * v1) + z5.2).toNatClampNeg)), (z5.2 + 1))))))
def f_X5_copies (row : Nat → Int32) (tot : Nat → Int64) (p0 : Int32) (p1 : Int32) : Option ((Nat → Int32) × (Nat → Int64)) :=
  (lp (f_X5_copies_b2 p0 p1) 1000 (row, 0)).bind (fun q1 => (lp (f_X5_copies_b38 p0 p1) 1000 (tot, 0)).bind (fun q5 => some (q1, q5)))

set_option maxHeartbeats 4000000 in
set_option maxRecDepth 100000 in
theorem c_X5_copies (l : Launch) (G : va_G) (cI cJ cZ cO cA : ClassId) (e : Nat × Nat) (aM : Nat → Nat) (sz : Nat) (row : Nat → Int32) (tot : Nat → Int64) (tab : Nat → Int64) (goa : Nat → Int64) (bes : Nat → Int64) (tic : Nat → Int64) (txt : Nat → Int32) (par : Nat → Int32) (sav : Int32) (bwh : Int64) (bpr : Int64) (bse : Int32) (len : Int32) (mat : Int32) (ask : Int32) (hh : Int64) (p0 : Int32) (p1 : Int32) {res : (Nat → Int32) × (Nat → Int64)} (hf : f_X5_copies row tot p0 p1 = some res) : MetV l yX5_copies cX5_copies 4 ({ frames := 0, cells := 0, slots := 0, locals := 0 } : Room) [.ref (aM 0), .int p0, .int p1] G (ty5 cI cJ cZ cO cA) e (wM cI cJ aM row tot tab goa bes tic txt par sav bwh bpr bse len mat ask hh ++ ([] : va_W)) (wM cI cJ aM res.1 res.2 tab goa bes tic txt par sav bwh bpr bse len mat ask hh ++ ([] : va_W)) sz := by
  refine g_body (QQ := fun A => (qV G (ty5 cI cJ cZ cO cA) A (wM cI cJ aM res.1 res.2 tab goa bes tic txt par sav bwh bpr bse len mat ask hh ++ ([] : va_W)))) (own := RX5) (by decide) rfl (Nat.le_of_ble_eq_true rfl) ?_
  intro p ev s m below meth c A ls hx hb hr hml hown hts hlk hA hP hD hS hK hE hl
  have hl : lv_has ls 4 [(0, .ref (aM 0)), (1, .int p0), (2, .int p1)] := hl
  show W p l ev ({ frames := 0, cells := 0, slots := 0, locals := 0 } : Room) s m ([.ref (aM 0), .int p0, .int p1] : List Value).toArray below meth c s.heap [] 0 0 (MQ below (qV G (ty5 cI cJ cZ cO cA) A (wM cI cJ aM res.1 res.2 tab goa bes tic txt par sav bwh bpr bse len mat ask hh ++ ([] : va_W))) ([.ref (aM 0), .int p0, .int p1] : List Value).toArray s 0 0 A) (F0 m 0 ls [])
  have h := hf
  unfold f_X5_copies at h
  refine lv_iconst (v := 0) hx hb dX5_copies_0 (by decide) ?_
  refine lv_istore_n (lv' := [(3, .int 0), (0, .ref (aM 0)), (1, .int p0), (2, .int p1)]) hx hb dX5_copies_1 rfl hl (by decide) rfl (fun ls hl => ?_)
  obtain ⟨q1, hq1, h⟩ := bd_s h
  have hX1_0 : ∀ (x1 : (Nat → Int32)) (H : Heap) (locs : List Loc) (ls : Array Slot), x1 = q1 → va_P G vwCl (wM cI cJ aM x1 tot tab goa bes tic txt par sav bwh bpr bse len mat ask hh ++ ([] : va_W)) H → va_D A (wM cI cJ aM x1 tot tab goa bes tic txt par sav bwh bpr bse len mat ask hh ++ ([] : va_W)) → va_S A s.heap H locs → lv_has ls 4 [(0, .ref (aM 0)), (1, .int p0), (2, .int p1)] → W p l ev ({ frames := 0, cells := 0, slots := 0, locals := 0 } : Room) s m ([.ref (aM 0), .int p0, .int p1] : List Value).toArray below meth c H locs 0 0 (MQ below (qV G (ty5 cI cJ cZ cO cA) A (wM cI cJ aM res.1 res.2 tab goa bes tic txt par sav bwh bpr bse len mat ask hh ++ ([] : va_W))) ([.ref (aM 0), .int p0, .int p1] : List Value).toArray s 0 0 A) (F0 m 36 ls []) := by
    intro x1 H locs ls e1 hP hD hS hl
    replace e1 := e1.symm
    subst e1
    refine lv_iconst (v := 0) hx hb dX5_copies_36 (by decide) ?_
    refine lv_istore_n (lv' := [(3, .int 0), (0, .ref (aM 0)), (1, .int p0), (2, .int p1)]) hx hb dX5_copies_37 rfl hl (by decide) rfl (fun ls hl => ?_)
    obtain ⟨q5, hq5, h⟩ := bd_s h
    have hX5_0 : ∀ (x5 : (Nat → Int64)) (H : Heap) (locs : List Loc) (ls : Array Slot), x5 = q5 → va_P G vwCl (wM cI cJ aM q1 x5 tab goa bes tic txt par sav bwh bpr bse len mat ask hh ++ ([] : va_W)) H → va_D A (wM cI cJ aM q1 x5 tab goa bes tic txt par sav bwh bpr bse len mat ask hh ++ ([] : va_W)) → va_S A s.heap H locs → lv_has ls 4 [] → W p l ev ({ frames := 0, cells := 0, slots := 0, locals := 0 } : Room) s m ([.ref (aM 0), .int p0, .int p1] : List Value).toArray below meth c H locs 0 0 (MQ below (qV G (ty5 cI cJ cZ cO cA) A (wM cI cJ aM res.1 res.2 tab goa bes tic txt par sav bwh bpr bse len mat ask hh ++ ([] : va_W))) ([.ref (aM 0), .int p0, .int p1] : List Value).toArray s 0 0 A) (F0 m 69 ls []) := by
      intro x5 H locs ls e5 hP hD hS hl
      replace e5 := e5.symm
      subst e5
      rw [← Option.some.inj h]
      exact krv hx hb hr hlk hP hD hS hK dX5_copies_69
    have hL5 : ∀ (n : Nat) (z5 : (Nat → Int64) × Int32) (H : Heap) (locs : List Loc) (ls : Array Slot), lp (f_X5_copies_b38 p0 p1) n z5 = some q5 → va_P G vwCl (wM cI cJ aM q1 z5.1 tab goa bes tic txt par sav bwh bpr bse len mat ask hh ++ ([] : va_W)) H → va_D A (wM cI cJ aM q1 z5.1 tab goa bes tic txt par sav bwh bpr bse len mat ask hh ++ ([] : va_W)) → va_S A s.heap H locs → lv_has ls 4 [(0, .ref (aM 0)), (1, .int p0), (2, .int p1), (3, .int z5.2)] → W p l ev ({ frames := 0, cells := 0, slots := 0, locals := 0 } : Room) s m ([.ref (aM 0), .int p0, .int p1] : List Value).toArray below meth c H locs 0 0 (MQ below (qV G (ty5 cI cJ cZ cO cA) A (wM cI cJ aM res.1 res.2 tab goa bes tic txt par sav bwh bpr bse len mat ask hh ++ ([] : va_W))) ([.ref (aM 0), .int p0, .int p1] : List Value).toArray s 0 0 A) (F0 m 38 ls []) := by
      intro n
      induction n with
      | zero => intro z5 H locs ls h; cases h
      | succ n ih5 =>
        intro z5 H locs ls h hP hD hS hl
        obtain ⟨o5, h, h5⟩ := lp_s h
        unfold f_X5_copies_b38 at h
        refine lv_iload_n hx hb dX5_copies_38 rfl (lv_at hl 3 rfl) ?_
        refine lv_iconst (v := 3) hx hb dX5_copies_39 (by decide) ?_
        refine lv_icmp_ge (tgt := 69) hx hb dX5_copies_40 (by decide) (fun c6 => ?_) (fun c6 => ?_)
        · replace h := (if_pos c6).symm.trans h
          rw [← Option.some.inj h] at h5
          exact hX5_0 z5.1 _ _ _ (lp_x h5) hP hD hS (lv_sub hl [] rfl)
        · replace h := (if_neg c6).symm.trans h
          refine lv_aload_n hx hb dX5_copies_43 rfl (lv_at hl 0 rfl) ?_
          refine va_get (D := G) (ci := 5) (v := .ref (aM 2)) (C := RX5) (T := TX5) (N := 16) hx hb hts uX5 hown hK hP 0 rfl rfl 1 (by decide) (hts _ kw580) (fun _ h9 => h9) rfl dX5_copies_44 ?_
          refine lv_iconst (v := 3) hx hb dX5_copies_47 (by decide) ?_
          refine lv_iload_n hx hb dX5_copies_48 rfl (lv_at hl 2 rfl) ?_
          refine lv_imul hx hb dX5_copies_49 ?_
          refine lv_iload_n hx hb dX5_copies_50 rfl (lv_at hl 3 rfl) ?_
          refine lv_iadd hx hb dX5_copies_51 ?_
          refine lv_aload_n hx hb dX5_copies_52 rfl (lv_at hl 0 rfl) ?_
          refine va_get (D := G) (ci := 5) (v := .ref (aM 2)) (C := RX5) (T := TX5) (N := 16) hx hb hts uX5 hown hK hP 0 rfl rfl 1 (by decide) (hts _ kw580) (fun _ h9 => h9) rfl dX5_copies_53 ?_
          refine lv_iconst (v := 3) hx hb dX5_copies_56 (by decide) ?_
          refine lv_iload_n hx hb dX5_copies_57 rfl (lv_at hl 1 rfl) ?_
          refine lv_imul hx hb dX5_copies_58 ?_
          refine lv_iload_n hx hb dX5_copies_59 rfl (lv_at hl 3 rfl) ?_
          refine lv_iadd hx hb dX5_copies_60 ?_
          obtain ⟨g7, h⟩ := gd_s h
          refine va_lald hx hb hK hP 2 1 rfl rfl (ib_in g7) dX5_copies_61 ?_
          obtain ⟨g8, h⟩ := gd_s h
          refine va_last hx hb hK hP hD hS 2 1 rfl rfl (ib_in g8) dX5_copies_62 (fun H locs hP hD hS => ?_)
          have hP : va_P G vwCl (wM cI cJ aM q1 (vp_updL z5.1 ((3 * p1) + z5.2).toNatClampNeg (z5.1 ((3 * p0) + z5.2).toNatClampNeg)) tab goa bes tic txt par sav bwh bpr bse len mat ask hh ++ ([] : va_W)) H := hP
          have hD : va_D A (wM cI cJ aM q1 (vp_updL z5.1 ((3 * p1) + z5.2).toNatClampNeg (z5.1 ((3 * p0) + z5.2).toNatClampNeg)) tab goa bes tic txt par sav bwh bpr bse len mat ask hh ++ ([] : va_W)) := hD
          refine lv_iinc (v := (z5.2 + 1)) (lv' := [(3, .int (z5.2 + 1)), (0, .ref (aM 0)), (1, .int p0), (2, .int p1)]) hx hb dX5_copies_63 hl (k := 3) rfl rfl (by decide) rfl (fun ls hl => ?_)
          refine lv_goto (tgt := 38) hx hb dX5_copies_66 (by decide) ?_
          rw [← Option.some.inj h] at h5
          exact ih5 ((vp_updL z5.1 ((3 * p1) + z5.2).toNatClampNeg (z5.1 ((3 * p0) + z5.2).toNatClampNeg)), (z5.2 + 1)) _ _ _ (lp_b h5) hP hD hS (lv_sub hl [1, 2, 3, 0] rfl)
    exact hL5 _ (tot, 0) _ _ _ hq5 hP hD hS (lv_sub hl [1, 2, 3, 0] rfl)
  have hL1 : ∀ (n : Nat) (z1 : (Nat → Int32) × Int32) (H : Heap) (locs : List Loc) (ls : Array Slot), lp (f_X5_copies_b2 p0 p1) n z1 = some q1 → va_P G vwCl (wM cI cJ aM z1.1 tot tab goa bes tic txt par sav bwh bpr bse len mat ask hh ++ ([] : va_W)) H → va_D A (wM cI cJ aM z1.1 tot tab goa bes tic txt par sav bwh bpr bse len mat ask hh ++ ([] : va_W)) → va_S A s.heap H locs → lv_has ls 4 [(0, .ref (aM 0)), (1, .int p0), (2, .int p1), (3, .int z1.2)] → W p l ev ({ frames := 0, cells := 0, slots := 0, locals := 0 } : Room) s m ([.ref (aM 0), .int p0, .int p1] : List Value).toArray below meth c H locs 0 0 (MQ below (qV G (ty5 cI cJ cZ cO cA) A (wM cI cJ aM res.1 res.2 tab goa bes tic txt par sav bwh bpr bse len mat ask hh ++ ([] : va_W))) ([.ref (aM 0), .int p0, .int p1] : List Value).toArray s 0 0 A) (F0 m 2 ls []) := by
    intro n
    induction n with
    | zero => intro z1 H locs ls h; cases h
    | succ n ih1 =>
      intro z1 H locs ls h hP hD hS hl
      obtain ⟨o1, h, h1⟩ := lp_s h
      unfold f_X5_copies_b2 at h
      refine lv_iload_n hx hb dX5_copies_2 rfl (lv_at hl 3 rfl) ?_
      refine lv_bipush (v := 118) hx hb dX5_copies_3 (by decide) ?_
      refine lv_icmp_ge (tgt := 36) hx hb dX5_copies_5 (by decide) (fun c2 => ?_) (fun c2 => ?_)
      · replace h := (if_pos c2).symm.trans h
        rw [← Option.some.inj h] at h1
        exact hX1_0 z1.1 _ _ _ (lp_x h1) hP hD hS (lv_sub hl [0, 1, 2] rfl)
      · replace h := (if_neg c2).symm.trans h
        refine lv_aload_n hx hb dX5_copies_8 rfl (lv_at hl 0 rfl) ?_
        refine va_get (D := G) (ci := 5) (v := .ref (aM 1)) (C := RX5) (T := TX5) (N := 16) hx hb hts uX5 hown hK hP 0 rfl rfl 0 (by decide) (hts _ kw579) (fun _ h9 => h9) rfl dX5_copies_9 ?_
        refine lv_bipush (v := 118) hx hb dX5_copies_12 (by decide) ?_
        refine lv_iload_n hx hb dX5_copies_14 rfl (lv_at hl 2 rfl) ?_
        refine lv_imul hx hb dX5_copies_15 ?_
        refine lv_iload_n hx hb dX5_copies_16 rfl (lv_at hl 3 rfl) ?_
        refine lv_iadd hx hb dX5_copies_17 ?_
        refine lv_aload_n hx hb dX5_copies_18 rfl (lv_at hl 0 rfl) ?_
        refine va_get (D := G) (ci := 5) (v := .ref (aM 1)) (C := RX5) (T := TX5) (N := 16) hx hb hts uX5 hown hK hP 0 rfl rfl 0 (by decide) (hts _ kw579) (fun _ h9 => h9) rfl dX5_copies_19 ?_
        refine lv_bipush (v := 118) hx hb dX5_copies_22 (by decide) ?_
        refine lv_iload_n hx hb dX5_copies_24 rfl (lv_at hl 1 rfl) ?_
        refine lv_imul hx hb dX5_copies_25 ?_
        refine lv_iload_n hx hb dX5_copies_26 rfl (lv_at hl 3 rfl) ?_
        refine lv_iadd hx hb dX5_copies_27 ?_
        obtain ⟨g3, h⟩ := gd_s h
        refine va_iald hx hb hK hP 1 0 rfl rfl (ib_in g3) dX5_copies_28 ?_
        obtain ⟨g4, h⟩ := gd_s h
        refine va_iast hx hb hK hP hD hS 1 0 rfl rfl (ib_in g4) dX5_copies_29 (fun H locs hP hD hS => ?_)
        have hP : va_P G vwCl (wM cI cJ aM (upd z1.1 ((118 * p1) + z1.2).toNatClampNeg (z1.1 ((118 * p0) + z1.2).toNatClampNeg)) tot tab goa bes tic txt par sav bwh bpr bse len mat ask hh ++ ([] : va_W)) H := hP
        have hD : va_D A (wM cI cJ aM (upd z1.1 ((118 * p1) + z1.2).toNatClampNeg (z1.1 ((118 * p0) + z1.2).toNatClampNeg)) tot tab goa bes tic txt par sav bwh bpr bse len mat ask hh ++ ([] : va_W)) := hD
        refine lv_iinc (v := (z1.2 + 1)) (lv' := [(3, .int (z1.2 + 1)), (0, .ref (aM 0)), (1, .int p0), (2, .int p1)]) hx hb dX5_copies_30 hl (k := 3) rfl rfl (by decide) rfl (fun ls hl => ?_)
        refine lv_goto (tgt := 2) hx hb dX5_copies_33 (by decide) ?_
        rw [← Option.some.inj h] at h1
        exact ih1 ((upd z1.1 ((118 * p1) + z1.2).toNatClampNeg (z1.1 ((118 * p0) + z1.2).toNatClampNeg)), (z1.2 + 1)) _ _ _ (lp_b h1) hP hD hS (lv_sub hl [1, 2, 3, 0] rfl)
  exact hL1 _ (row, 0) _ _ _ hq1 hP hD hS (lv_sub hl [1, 2, 3, 0] rfl)

/-! X5_saves -/
def f_X5_saves_b2 (sav : Int32) (z1 : (Nat → Int32) × (Nat → Int64) × Int32) : Option (((Nat → Int32) × (Nat → Int64) × Int32) ⊕ ((Nat → Int32) × (Nat → Int64))) :=
  if 5 ≤ z1.2.2 then (some (Sum.inr (z1.1, z1.2.1))) else (if sav = 5 then ((f_X5_copies z1.1 z1.2.1 (z1.2.2 + 1) z1.2.2).bind (fun q4 => some (Sum.inl (q4.1, q4.2, (z1.2.2 + 1))))) else (some (Sum.inr (z1.1, z1.2.1))))
def f_X5_saves_j47 (row : Nat → Int32) (tot : Nat → Int64) (t0 : Int32) (t1 : Int32) : Option ((Nat → Int32) × (Nat → Int64) × Int32) :=
  (f_X5_copies row tot 0 ((t1 - t0) + 1)).bind (fun q7 => some (q7.1, q7.2, ((t1 - t0) + 1)))
def f_X5_saves (row : Nat → Int32) (tot : Nat → Int64) (sav : Int32) : Option ((Nat → Int32) × (Nat → Int64) × Int32) :=
  (lp (f_X5_saves_b2 sav) 1000 (row, tot, 1)).bind (fun q1 => if sav = 5 then (f_X5_saves_j47 q1.1 q1.2 1 sav) else (f_X5_saves_j47 q1.1 q1.2 0 sav))

set_option maxHeartbeats 4000000 in
set_option maxRecDepth 100000 in
theorem c_X5_saves (l : Launch) (G : va_G) (cI cJ cZ cO cA : ClassId) (e : Nat × Nat) (aM : Nat → Nat) (sz : Nat) (row : Nat → Int32) (tot : Nat → Int64) (tab : Nat → Int64) (goa : Nat → Int64) (bes : Nat → Int64) (tic : Nat → Int64) (txt : Nat → Int32) (par : Nat → Int32) (sav : Int32) (bwh : Int64) (bpr : Int64) (bse : Int32) (len : Int32) (mat : Int32) (ask : Int32) (hh : Int64) {res : (Nat → Int32) × (Nat → Int64) × Int32} (hf : f_X5_saves row tot sav = some res) : MetV l yX5_saves cX5_saves 2 ({ frames := 1, cells := 0, slots := 0, locals := 23 } : Room) [.ref (aM 0)] G (ty5 cI cJ cZ cO cA) e (wM cI cJ aM row tot tab goa bes tic txt par sav bwh bpr bse len mat ask hh ++ ([] : va_W)) (wM cI cJ aM res.1 res.2.1 tab goa bes tic txt par res.2.2 bwh bpr bse len mat ask hh ++ ([] : va_W)) sz := by
  refine g_body (QQ := fun A => (qV G (ty5 cI cJ cZ cO cA) A (wM cI cJ aM res.1 res.2.1 tab goa bes tic txt par res.2.2 bwh bpr bse len mat ask hh ++ ([] : va_W)))) (own := RX5) (by decide) rfl (Nat.le_of_ble_eq_true rfl) ?_
  intro p ev s m below meth c A ls hx hb hr hml hown hts hlk hA hP hD hS hK hE hl
  have hl : lv_has ls 2 [(0, .ref (aM 0))] := hl
  show W p l ev ({ frames := 1, cells := 0, slots := 0, locals := 23 } : Room) s m ([.ref (aM 0)] : List Value).toArray below meth c s.heap [] 0 0 (MQ below (qV G (ty5 cI cJ cZ cO cA) A (wM cI cJ aM res.1 res.2.1 tab goa bes tic txt par res.2.2 bwh bpr bse len mat ask hh ++ ([] : va_W))) ([.ref (aM 0)] : List Value).toArray s 0 0 A) (F0 m 0 ls [])
  have h := hf
  unfold f_X5_saves at h
  refine lv_iconst (v := 1) hx hb dX5_saves_0 (by decide) ?_
  refine lv_istore_n (lv' := [(1, .int 1), (0, .ref (aM 0))]) hx hb dX5_saves_1 rfl hl (by decide) rfl (fun ls hl => ?_)
  obtain ⟨q1, hq1, h⟩ := bd_s h
  have hX1_0 : ∀ (x1 : (Nat → Int32) × (Nat → Int64)) (H : Heap) (locs : List Loc) (ls : Array Slot), x1 = q1 → va_P G vwCl (wM cI cJ aM x1.1 x1.2 tab goa bes tic txt par sav bwh bpr bse len mat ask hh ++ ([] : va_W)) H → va_D A (wM cI cJ aM x1.1 x1.2 tab goa bes tic txt par sav bwh bpr bse len mat ask hh ++ ([] : va_W)) → va_S A s.heap H locs → lv_has ls 2 [(0, .ref (aM 0))] → W p l ev ({ frames := 1, cells := 0, slots := 0, locals := 23 } : Room) s m ([.ref (aM 0)] : List Value).toArray below meth c H locs 0 0 (MQ below (qV G (ty5 cI cJ cZ cO cA) A (wM cI cJ aM res.1 res.2.1 tab goa bes tic txt par res.2.2 bwh bpr bse len mat ask hh ++ ([] : va_W))) ([.ref (aM 0)] : List Value).toArray s 0 0 A) (F0 m 29 ls []) := by
    intro x1 H locs ls e1 hP hD hS hl
    replace e1 := e1.symm
    subst e1
    refine lv_aload_n hx hb dX5_saves_29 rfl (lv_at hl 0 rfl) ?_
    refine lv_dup hx hb dX5_saves_30 rfl ?_
    refine va_get (D := G) (ci := 5) (v := .int sav) (C := RX5) (T := TX5) (N := 16) hx hb hts uX5 hown hK hP 0 rfl rfl 2 (by decide) (hts _ kw581) (fun _ h9 => h9) rfl dX5_saves_31 ?_
    refine lv_aload_n hx hb dX5_saves_34 rfl (lv_at hl 0 rfl) ?_
    refine va_get (D := G) (ci := 5) (v := .int sav) (C := RX5) (T := TX5) (N := 16) hx hb hts uX5 hown hK hP 0 rfl rfl 2 (by decide) (hts _ kw581) (fun _ h9 => h9) rfl dX5_saves_35 ?_
    refine lv_iconst (v := 5) hx hb dX5_saves_38 (by decide) ?_
    have hJ6 : ∀ (row_6 : Nat → Int32) (tot_6 : Nat → Int64) (sav_6 : Int32) (t0_6 : Int32) (t1_6 : Int32) (H : Heap) (locs : List Loc) (ls : Array Slot), f_X5_saves_j47 row_6 tot_6 t0_6 t1_6 = some res → va_P G vwCl (wM cI cJ aM row_6 tot_6 tab goa bes tic txt par sav_6 bwh bpr bse len mat ask hh ++ ([] : va_W)) H → va_D A (wM cI cJ aM row_6 tot_6 tab goa bes tic txt par sav_6 bwh bpr bse len mat ask hh ++ ([] : va_W)) → va_S A s.heap H locs → lv_has ls 2 [(0, .ref (aM 0))] → W p l ev ({ frames := 1, cells := 0, slots := 0, locals := 23 } : Room) s m ([.ref (aM 0)] : List Value).toArray below meth c H locs 0 0 (MQ below (qV G (ty5 cI cJ cZ cO cA) A (wM cI cJ aM res.1 res.2.1 tab goa bes tic txt par res.2.2 bwh bpr bse len mat ask hh ++ ([] : va_W))) ([.ref (aM 0)] : List Value).toArray s 0 0 A) (F0 m 47 ls [.int t0_6, .int t1_6, .ref (aM 0)]) := by
      intro row_6 tot_6 sav_6 t0_6 t1_6 H locs ls h hP hD hS hl
      unfold f_X5_saves_j47 at h
      refine lv_isub hx hb dX5_saves_47 ?_
      refine va_put (D := G) (ci := 5) (ty := .int) (v := .int (t1_6 - t0_6)) (C := RX5) (T := TX5) (N := 16) hx hb hts uX5 tyX5 tyX5_ok nmX5 hown hK hP hD hS 0 rfl rfl 2 (by decide) (hts _ kw581) (fun _ h9 => h9) rfl (by decide +kernel) rfl rfl (Nat.le_of_ble_eq_true rfl) dX5_saves_48 (fun H locs hP hD hS => ?_)
      have hP : va_P G vwCl (wM cI cJ aM row_6 tot_6 tab goa bes tic txt par (t1_6 - t0_6) bwh bpr bse len mat ask hh ++ ([] : va_W)) H := hP
      have hD : va_D A (wM cI cJ aM row_6 tot_6 tab goa bes tic txt par (t1_6 - t0_6) bwh bpr bse len mat ask hh ++ ([] : va_W)) := hD
      refine lv_aload_n hx hb dX5_saves_51 rfl (lv_at hl 0 rfl) ?_
      refine lv_dup hx hb dX5_saves_52 rfl ?_
      refine va_get (D := G) (ci := 5) (v := .int (t1_6 - t0_6)) (C := RX5) (T := TX5) (N := 16) hx hb hts uX5 hown hK hP 0 rfl rfl 2 (by decide) (hts _ kw581) (fun _ h9 => h9) rfl dX5_saves_53 ?_
      refine lv_iconst (v := 1) hx hb dX5_saves_56 (by decide) ?_
      refine lv_iadd hx hb dX5_saves_57 ?_
      refine va_put (D := G) (ci := 5) (ty := .int) (v := .int ((t1_6 - t0_6) + 1)) (C := RX5) (T := TX5) (N := 16) hx hb hts uX5 tyX5 tyX5_ok nmX5 hown hK hP hD hS 0 rfl rfl 2 (by decide) (hts _ kw581) (fun _ h9 => h9) rfl (by decide +kernel) rfl rfl (Nat.le_of_ble_eq_true rfl) dX5_saves_58 (fun H locs hP hD hS => ?_)
      have hP : va_P G vwCl (wM cI cJ aM row_6 tot_6 tab goa bes tic txt par ((t1_6 - t0_6) + 1) bwh bpr bse len mat ask hh ++ ([] : va_W)) H := hP
      have hD : va_D A (wM cI cJ aM row_6 tot_6 tab goa bes tic txt par ((t1_6 - t0_6) + 1) bwh bpr bse len mat ask hh ++ ([] : va_W)) := hD
      refine lv_aload_n hx hb dX5_saves_61 rfl (lv_at hl 0 rfl) ?_
      refine lv_iconst (v := 0) hx hb dX5_saves_62 (by decide) ?_
      refine lv_aload_n hx hb dX5_saves_63 rfl (lv_at hl 0 rfl) ?_
      refine va_get (D := G) (ci := 5) (v := .int ((t1_6 - t0_6) + 1)) (C := RX5) (T := TX5) (N := 16) hx hb hts uX5 hown hK hP 0 rfl rfl 2 (by decide) (hts _ kw581) (fun _ h9 => h9) rfl dX5_saves_64 ?_
      obtain ⟨q7, hq7, h⟩ := bd_s h
      refine kVv (n := 2) (C := RX5) (ws' := wM cI cJ aM q7.1 q7.2 tab goa bes tic txt par ((t1_6 - t0_6) + 1) bwh bpr bse len mat ask hh ++ ([] : va_W)) (As := [.int 0, .int ((t1_6 - t0_6) + 1)]) (rest := []) hx hb hml hown hts (c_X5_copies l G cI cJ cZ cO cA e aM _ row_6 tot_6 tab goa bes tic txt par ((t1_6 - t0_6) + 1) bwh bpr bse len mat ask hh 0 ((t1_6 - t0_6) + 1) hq7) (tb_V kw645 kw647 kv15 kw7 kw648) rfl rfl (by decide +kernel) ⟨Nat.le_of_ble_eq_true rfl, Nat.le_of_ble_eq_true rfl⟩ hK hP hD hS hA hE 0 rfl rfl [0, 1, 2, 3, 4, 5, 6, 7, 8] [] rfl rfl rfl 9 ⟨rfl, rfl⟩ (by decide +kernel) (by decide +kernel) rfl rfl hl.1 (Nat.le_of_ble_eq_true rfl) ⟨Nat.zero_le _, Nat.zero_le _⟩ dX5_saves_67 (fun H locs hP hD hS => ?_)
      rw [← Option.some.inj h]
      exact krv hx hb hr hlk hP hD hS hK dX5_saves_70
    refine lv_icmp_ne (tgt := 46) hx hb dX5_saves_39 (by decide) (fun c5 => ?_) (fun c5 => ?_)
    · replace h := (if_neg c5).symm.trans h
      refine lv_iconst (v := 0) hx hb dX5_saves_46 (by decide) ?_
      exact hJ6 q1.1 q1.2 sav 0 sav _ _ _ h hP hD hS (lv_sub hl [0] rfl)
    · replace h := (if_pos c5).symm.trans h
      refine lv_iconst (v := 1) hx hb dX5_saves_42 (by decide) ?_
      refine lv_goto (tgt := 47) hx hb dX5_saves_43 (by decide) ?_
      exact hJ6 q1.1 q1.2 sav 1 sav _ _ _ h hP hD hS (lv_sub hl [0] rfl)
  have hL1 : ∀ (n : Nat) (z1 : (Nat → Int32) × (Nat → Int64) × Int32) (H : Heap) (locs : List Loc) (ls : Array Slot), lp (f_X5_saves_b2 sav) n z1 = some q1 → va_P G vwCl (wM cI cJ aM z1.1 z1.2.1 tab goa bes tic txt par sav bwh bpr bse len mat ask hh ++ ([] : va_W)) H → va_D A (wM cI cJ aM z1.1 z1.2.1 tab goa bes tic txt par sav bwh bpr bse len mat ask hh ++ ([] : va_W)) → va_S A s.heap H locs → lv_has ls 2 [(0, .ref (aM 0)), (1, .int z1.2.2)] → W p l ev ({ frames := 1, cells := 0, slots := 0, locals := 23 } : Room) s m ([.ref (aM 0)] : List Value).toArray below meth c H locs 0 0 (MQ below (qV G (ty5 cI cJ cZ cO cA) A (wM cI cJ aM res.1 res.2.1 tab goa bes tic txt par res.2.2 bwh bpr bse len mat ask hh ++ ([] : va_W))) ([.ref (aM 0)] : List Value).toArray s 0 0 A) (F0 m 2 ls []) := by
    intro n
    induction n with
    | zero => intro z1 H locs ls h; cases h
    | succ n ih1 =>
      intro z1 H locs ls h hP hD hS hl
      obtain ⟨o1, h, h1⟩ := lp_s h
      unfold f_X5_saves_b2 at h
      refine lv_iload_n hx hb dX5_saves_2 rfl (lv_at hl 1 rfl) ?_
      refine lv_iconst (v := 5) hx hb dX5_saves_3 (by decide) ?_
      refine lv_icmp_ge (tgt := 29) hx hb dX5_saves_4 (by decide) (fun c2 => ?_) (fun c2 => ?_)
      · replace h := (if_pos c2).symm.trans h
        rw [← Option.some.inj h] at h1
        exact hX1_0 (z1.1, z1.2.1) _ _ _ (lp_x h1) hP hD hS (lv_sub hl [0] rfl)
      · replace h := (if_neg c2).symm.trans h
        refine lv_aload_n hx hb dX5_saves_7 rfl (lv_at hl 0 rfl) ?_
        refine va_get (D := G) (ci := 5) (v := .int sav) (C := RX5) (T := TX5) (N := 16) hx hb hts uX5 hown hK hP 0 rfl rfl 2 (by decide) (hts _ kw581) (fun _ h9 => h9) rfl dX5_saves_8 ?_
        refine lv_iconst (v := 5) hx hb dX5_saves_11 (by decide) ?_
        refine lv_icmp_ne (tgt := 29) hx hb dX5_saves_12 (by decide) (fun c3 => ?_) (fun c3 => ?_)
        · replace h := (if_neg c3).symm.trans h
          rw [← Option.some.inj h] at h1
          exact hX1_0 (z1.1, z1.2.1) _ _ _ (lp_x h1) hP hD hS (lv_sub hl [0] rfl)
        · replace h := (if_pos c3).symm.trans h
          refine lv_aload_n hx hb dX5_saves_15 rfl (lv_at hl 0 rfl) ?_
          refine lv_iload_n hx hb dX5_saves_16 rfl (lv_at hl 1 rfl) ?_
          refine lv_iconst (v := 1) hx hb dX5_saves_17 (by decide) ?_
          refine lv_iadd hx hb dX5_saves_18 ?_
          refine lv_iload_n hx hb dX5_saves_19 rfl (lv_at hl 1 rfl) ?_
          obtain ⟨q4, hq4, h⟩ := bd_s h
          refine kVv (n := 2) (C := RX5) (ws' := wM cI cJ aM q4.1 q4.2 tab goa bes tic txt par sav bwh bpr bse len mat ask hh ++ ([] : va_W)) (As := [.int (z1.2.2 + 1), .int z1.2.2]) (rest := []) hx hb hml hown hts (c_X5_copies l G cI cJ cZ cO cA e aM _ z1.1 z1.2.1 tab goa bes tic txt par sav bwh bpr bse len mat ask hh (z1.2.2 + 1) z1.2.2 hq4) (tb_V kw645 kw647 kv15 kw7 kw648) rfl rfl (by decide +kernel) ⟨Nat.le_of_ble_eq_true rfl, Nat.le_of_ble_eq_true rfl⟩ hK hP hD hS hA hE 0 rfl rfl [0, 1, 2, 3, 4, 5, 6, 7, 8] [] rfl rfl rfl 9 ⟨rfl, rfl⟩ (by decide +kernel) (by decide +kernel) rfl rfl hl.1 (Nat.le_of_ble_eq_true rfl) ⟨Nat.zero_le _, Nat.zero_le _⟩ dX5_saves_20 (fun H locs hP hD hS => ?_)
          refine lv_iinc (v := (z1.2.2 + 1)) (lv' := [(1, .int (z1.2.2 + 1)), (0, .ref (aM 0))]) hx hb dX5_saves_23 hl (k := 1) rfl rfl (by decide) rfl (fun ls hl => ?_)
          refine lv_goto (tgt := 2) hx hb dX5_saves_26 (by decide) ?_
          rw [← Option.some.inj h] at h1
          exact ih1 (q4.1, q4.2, (z1.2.2 + 1)) _ _ _ (lp_b h1) hP hD hS (lv_sub hl [1, 0] rfl)
  exact hL1 _ (row, tot, 1) _ _ _ hq1 hP hD hS (lv_sub hl [1, 0] rfl)

/-! X5_isThruster -/
def f_X5_isThruster (row : Nat → Int32) (p0 : Int32) : Option (Int32) :=
  gd (ib 0 708) ((f_X5_in p0 0 ((row (0 : Int32).toNatClampNeg) - 1)).bind (fun q2 => gd (zb q2) (some q2)))

set_option maxHeartbeats 4000000 in
set_option maxRecDepth 100000 in
theorem c_X5_isThruster (l : Launch) (G : va_G) (cI cJ cZ cO cA : ClassId) (e : Nat × Nat) (aM : Nat → Nat) (sz : Nat) (row : Nat → Int32) (tot : Nat → Int64) (tab : Nat → Int64) (goa : Nat → Int64) (bes : Nat → Int64) (tic : Nat → Int64) (txt : Nat → Int32) (par : Nat → Int32) (sav : Int32) (bwh : Int64) (bpr : Int64) (bse : Int32) (len : Int32) (mat : Int32) (ask : Int32) (hh : Int64) (p0 : Int32) {res : Int32} (hf : f_X5_isThruster row p0 = some res) : MetI l yX5_isThruster cX5_isThruster 2 .boolean ({ frames := 1, cells := 0, slots := 0, locals := 22 } : Room) [.ref (aM 0), .int p0] G (ty5 cI cJ cZ cO cA) e (wM cI cJ aM row tot tab goa bes tic txt par sav bwh bpr bse len mat ask hh ++ ([] : va_W)) (wM cI cJ aM row tot tab goa bes tic txt par sav bwh bpr bse len mat ask hh ++ ([] : va_W)) sz res := by
  refine g_body (QQ := fun A => (qI G (ty5 cI cJ cZ cO cA) A (wM cI cJ aM row tot tab goa bes tic txt par sav bwh bpr bse len mat ask hh ++ ([] : va_W)) res)) (own := RX5) (by decide) rfl (Nat.le_of_ble_eq_true rfl) ?_
  intro p ev s m below meth c A ls hx hb hr hml hown hts hlk hA hP hD hS hK hE hl
  have hl : lv_has ls 2 [(0, .ref (aM 0)), (1, .int p0)] := hl
  show W p l ev ({ frames := 1, cells := 0, slots := 0, locals := 22 } : Room) s m ([.ref (aM 0), .int p0] : List Value).toArray below meth c s.heap [] 0 0 (MQ below (qI G (ty5 cI cJ cZ cO cA) A (wM cI cJ aM row tot tab goa bes tic txt par sav bwh bpr bse len mat ask hh ++ ([] : va_W)) res) ([.ref (aM 0), .int p0] : List Value).toArray s 0 0 A) (F0 m 0 ls [])
  have h := hf
  unfold f_X5_isThruster at h
  refine lv_iload_n hx hb dX5_isThruster_0 rfl (lv_at hl 1 rfl) ?_
  refine lv_iconst (v := 0) hx hb dX5_isThruster_1 (by decide) ?_
  refine lv_aload_n hx hb dX5_isThruster_2 rfl (lv_at hl 0 rfl) ?_
  refine va_get (D := G) (ci := 5) (v := .ref (aM 1)) (C := RX5) (T := TX5) (N := 16) hx hb hts uX5 hown hK hP 0 rfl rfl 0 (by decide) (hts _ kw579) (fun _ h9 => h9) rfl dX5_isThruster_3 ?_
  refine lv_iconst (v := 0) hx hb dX5_isThruster_6 (by decide) ?_
  obtain ⟨g1, h⟩ := gd_s h
  refine va_iald hx hb hK hP 1 0 rfl rfl (ib_in g1) dX5_isThruster_7 ?_
  refine lv_iconst (v := 1) hx hb dX5_isThruster_8 (by decide) ?_
  refine lv_isub hx hb dX5_isThruster_9 ?_
  obtain ⟨q2, hq2, h⟩ := bd_s h
  refine kSi (n := 3) (As := [.int p0, .int 0, .int ((row (0 : Int32).toNatClampNeg) - 1)]) (rest := []) hx hb hml hown hts (c_X5_in l G cI cJ cZ cO cA e _ p0 0 ((row (0 : Int32).toNatClampNeg) - 1) hq2) (tb_S kw635 kw636 kw7 kw637) rfl rfl (by decide +kernel) ⟨Nat.le_of_ble_eq_true rfl, Nat.le_of_ble_eq_true rfl⟩ hK hP hD hS hA hE rfl rfl hl.1 (Nat.le_of_ble_eq_true rfl) ⟨Nat.zero_le _, Nat.zero_le _⟩ dX5_isThruster_10 (fun H locs hP hD hS => ?_)
  obtain ⟨g3, h⟩ := gd_s h
  rw [← Option.some.inj h]
  exact kri hx hb hr hlk (zb_s g3) rfl hP hD hS hK dX5_isThruster_13

/-! X5_isTank -/
def f_X5_isTank (p0 : Int32) : Option (Int32) :=
  (f_X5_in p0 0 1).bind (fun q1 => gd (zb q1) (some q1))

set_option maxHeartbeats 4000000 in
set_option maxRecDepth 100000 in
theorem c_X5_isTank (l : Launch) (G : va_G) (cI cJ cZ cO cA : ClassId) (e : Nat × Nat) (sz : Nat) (p0 : Int32) {res : Int32} (hf : f_X5_isTank p0 = some res) : MetI l yX5_isTank cX5_isTank 1 .boolean ({ frames := 1, cells := 0, slots := 0, locals := 22 } : Room) [.int p0] G (ty5 cI cJ cZ cO cA) e (([] : va_W)) (([] : va_W)) sz res := by
  refine g_body (QQ := fun A => (qI G (ty5 cI cJ cZ cO cA) A (([] : va_W)) res)) (own := RX5) (by decide) rfl (Nat.le_of_ble_eq_true rfl) ?_
  intro p ev s m below meth c A ls hx hb hr hml hown hts hlk hA hP hD hS hK hE hl
  have hl : lv_has ls 1 [(0, .int p0)] := hl
  show W p l ev ({ frames := 1, cells := 0, slots := 0, locals := 22 } : Room) s m ([.int p0] : List Value).toArray below meth c s.heap [] 0 0 (MQ below (qI G (ty5 cI cJ cZ cO cA) A (([] : va_W)) res) ([.int p0] : List Value).toArray s 0 0 A) (F0 m 0 ls [])
  have h := hf
  unfold f_X5_isTank at h
  refine lv_iload_n hx hb dX5_isTank_0 rfl (lv_at hl 0 rfl) ?_
  refine lv_iconst (v := 0) hx hb dX5_isTank_1 (by decide) ?_
  refine lv_iconst (v := 1) hx hb dX5_isTank_2 (by decide) ?_
  obtain ⟨q1, hq1, h⟩ := bd_s h
  refine kSi (n := 3) (As := [.int p0, .int 0, .int 1]) (rest := []) hx hb hml hown hts (c_X5_in l G cI cJ cZ cO cA e _ p0 0 1 hq1) (tb_S kw635 kw636 kw7 kw637) rfl rfl (by decide +kernel) ⟨Nat.le_of_ble_eq_true rfl, Nat.le_of_ble_eq_true rfl⟩ hK hP hD hS hA hE rfl rfl hl.1 (Nat.le_of_ble_eq_true rfl) ⟨Nat.zero_le _, Nat.zero_le _⟩ dX5_isTank_3 (fun H locs hP hD hS => ?_)
  obtain ⟨g2, h⟩ := gd_s h
  rw [← Option.some.inj h]
  exact kri hx hb hr hlk (zb_s g2) rfl hP hD hS hK dX5_isTank_6

/-! X5_isPart -/
def f_X5_isPart (p0 : Int32) : Option (Int32) :=
  (f_X5_in p0 0 2).bind (fun q1 => gd (zb q1) (some q1))

set_option maxHeartbeats 4000000 in
set_option maxRecDepth 100000 in
theorem c_X5_isPart (l : Launch) (G : va_G) (cI cJ cZ cO cA : ClassId) (e : Nat × Nat) (sz : Nat) (p0 : Int32) {res : Int32} (hf : f_X5_isPart p0 = some res) : MetI l yX5_isPart cX5_isPart 1 .boolean ({ frames := 1, cells := 0, slots := 0, locals := 22 } : Room) [.int p0] G (ty5 cI cJ cZ cO cA) e (([] : va_W)) (([] : va_W)) sz res := by
  refine g_body (QQ := fun A => (qI G (ty5 cI cJ cZ cO cA) A (([] : va_W)) res)) (own := RX5) (by decide) rfl (Nat.le_of_ble_eq_true rfl) ?_
  intro p ev s m below meth c A ls hx hb hr hml hown hts hlk hA hP hD hS hK hE hl
  have hl : lv_has ls 1 [(0, .int p0)] := hl
  show W p l ev ({ frames := 1, cells := 0, slots := 0, locals := 22 } : Room) s m ([.int p0] : List Value).toArray below meth c s.heap [] 0 0 (MQ below (qI G (ty5 cI cJ cZ cO cA) A (([] : va_W)) res) ([.int p0] : List Value).toArray s 0 0 A) (F0 m 0 ls [])
  have h := hf
  unfold f_X5_isPart at h
  refine lv_iload_n hx hb dX5_isPart_0 rfl (lv_at hl 0 rfl) ?_
  refine lv_iconst (v := 0) hx hb dX5_isPart_1 (by decide) ?_
  refine lv_iconst (v := 2) hx hb dX5_isPart_2 (by decide) ?_
  obtain ⟨q1, hq1, h⟩ := bd_s h
  refine kSi (n := 3) (As := [.int p0, .int 0, .int 2]) (rest := []) hx hb hml hown hts (c_X5_in l G cI cJ cZ cO cA e _ p0 0 2 hq1) (tb_S kw635 kw636 kw7 kw637) rfl rfl (by decide +kernel) ⟨Nat.le_of_ble_eq_true rfl, Nat.le_of_ble_eq_true rfl⟩ hK hP hD hS hA hE rfl rfl hl.1 (Nat.le_of_ble_eq_true rfl) ⟨Nat.zero_le _, Nat.zero_le _⟩ dX5_isPart_3 (fun H locs hP hD hS => ?_)
  obtain ⟨g2, h⟩ := gd_s h
  rw [← Option.some.inj h]
  exact kri hx hb hr hlk (zb_s g2) rfl hP hD hS hK dX5_isPart_6

/-! X5_of -/
def f_X5_of (row : Nat → Int32) (p0 : Int32) (p1 : Int32) : Option (Int32) :=
  gd (ib ((1 + (7 * p0)) + p1) 708) (some (row ((1 + (7 * p0)) + p1).toNatClampNeg))

set_option maxHeartbeats 4000000 in
set_option maxRecDepth 100000 in
theorem c_X5_of (l : Launch) (G : va_G) (cI cJ cZ cO cA : ClassId) (e : Nat × Nat) (aM : Nat → Nat) (sz : Nat) (row : Nat → Int32) (tot : Nat → Int64) (tab : Nat → Int64) (goa : Nat → Int64) (bes : Nat → Int64) (tic : Nat → Int64) (txt : Nat → Int32) (par : Nat → Int32) (sav : Int32) (bwh : Int64) (bpr : Int64) (bse : Int32) (len : Int32) (mat : Int32) (ask : Int32) (hh : Int64) (p0 : Int32) (p1 : Int32) {res : Int32} (hf : f_X5_of row p0 p1 = some res) : MetI l yX5_of cX5_of 3 .int ({ frames := 0, cells := 0, slots := 0, locals := 0 } : Room) [.ref (aM 0), .int p0, .int p1] G (ty5 cI cJ cZ cO cA) e (wM cI cJ aM row tot tab goa bes tic txt par sav bwh bpr bse len mat ask hh ++ ([] : va_W)) (wM cI cJ aM row tot tab goa bes tic txt par sav bwh bpr bse len mat ask hh ++ ([] : va_W)) sz res := by
  refine g_body (QQ := fun A => (qI G (ty5 cI cJ cZ cO cA) A (wM cI cJ aM row tot tab goa bes tic txt par sav bwh bpr bse len mat ask hh ++ ([] : va_W)) res)) (own := RX5) (by decide) rfl (Nat.le_of_ble_eq_true rfl) ?_
  intro p ev s m below meth c A ls hx hb hr hml hown hts hlk hA hP hD hS hK hE hl
  have hl : lv_has ls 3 [(0, .ref (aM 0)), (1, .int p0), (2, .int p1)] := hl
  show W p l ev ({ frames := 0, cells := 0, slots := 0, locals := 0 } : Room) s m ([.ref (aM 0), .int p0, .int p1] : List Value).toArray below meth c s.heap [] 0 0 (MQ below (qI G (ty5 cI cJ cZ cO cA) A (wM cI cJ aM row tot tab goa bes tic txt par sav bwh bpr bse len mat ask hh ++ ([] : va_W)) res) ([.ref (aM 0), .int p0, .int p1] : List Value).toArray s 0 0 A) (F0 m 0 ls [])
  have h := hf
  unfold f_X5_of at h
  refine lv_aload_n hx hb dX5_of_0 rfl (lv_at hl 0 rfl) ?_
  refine va_get (D := G) (ci := 5) (v := .ref (aM 1)) (C := RX5) (T := TX5) (N := 16) hx hb hts uX5 hown hK hP 0 rfl rfl 0 (by decide) (hts _ kw579) (fun _ h9 => h9) rfl dX5_of_1 ?_
  refine lv_iconst (v := 1) hx hb dX5_of_4 (by decide) ?_
  refine lv_bipush (v := 7) hx hb dX5_of_5 (by decide) ?_
  refine lv_iload_n hx hb dX5_of_7 rfl (lv_at hl 1 rfl) ?_
  refine lv_imul hx hb dX5_of_8 ?_
  refine lv_iadd hx hb dX5_of_9 ?_
  refine lv_iload_n hx hb dX5_of_10 rfl (lv_at hl 2 rfl) ?_
  refine lv_iadd hx hb dX5_of_11 ?_
  obtain ⟨g1, h⟩ := gd_s h
  refine va_iald hx hb hK hP 1 0 rfl rfl (ib_in g1) dX5_of_12 ?_
  rw [← Option.some.inj h]
  exact kri hx hb hr hlk rfl rfl hP hD hS hK dX5_of_13

/-! X5_fuelOf -/
def f_X5_fuelOf (row : Nat → Int32) (p0 : Int32) : Option (Int32) :=
  (f_X5_of row p0 4).bind (fun q1 => gd (ib (57 + q1) 708) (some (row (57 + q1).toNatClampNeg)))

set_option maxHeartbeats 4000000 in
set_option maxRecDepth 100000 in
theorem c_X5_fuelOf (l : Launch) (G : va_G) (cI cJ cZ cO cA : ClassId) (e : Nat × Nat) (aM : Nat → Nat) (sz : Nat) (row : Nat → Int32) (tot : Nat → Int64) (tab : Nat → Int64) (goa : Nat → Int64) (bes : Nat → Int64) (tic : Nat → Int64) (txt : Nat → Int32) (par : Nat → Int32) (sav : Int32) (bwh : Int64) (bpr : Int64) (bse : Int32) (len : Int32) (mat : Int32) (ask : Int32) (hh : Int64) (p0 : Int32) {res : Int32} (hf : f_X5_fuelOf row p0 = some res) : MetI l yX5_fuelOf cX5_fuelOf 2 .int ({ frames := 1, cells := 0, slots := 0, locals := 22 } : Room) [.ref (aM 0), .int p0] G (ty5 cI cJ cZ cO cA) e (wM cI cJ aM row tot tab goa bes tic txt par sav bwh bpr bse len mat ask hh ++ ([] : va_W)) (wM cI cJ aM row tot tab goa bes tic txt par sav bwh bpr bse len mat ask hh ++ ([] : va_W)) sz res := by
  refine g_body (QQ := fun A => (qI G (ty5 cI cJ cZ cO cA) A (wM cI cJ aM row tot tab goa bes tic txt par sav bwh bpr bse len mat ask hh ++ ([] : va_W)) res)) (own := RX5) (by decide) rfl (Nat.le_of_ble_eq_true rfl) ?_
  intro p ev s m below meth c A ls hx hb hr hml hown hts hlk hA hP hD hS hK hE hl
  have hl : lv_has ls 2 [(0, .ref (aM 0)), (1, .int p0)] := hl
  show W p l ev ({ frames := 1, cells := 0, slots := 0, locals := 22 } : Room) s m ([.ref (aM 0), .int p0] : List Value).toArray below meth c s.heap [] 0 0 (MQ below (qI G (ty5 cI cJ cZ cO cA) A (wM cI cJ aM row tot tab goa bes tic txt par sav bwh bpr bse len mat ask hh ++ ([] : va_W)) res) ([.ref (aM 0), .int p0] : List Value).toArray s 0 0 A) (F0 m 0 ls [])
  have h := hf
  unfold f_X5_fuelOf at h
  refine lv_aload_n hx hb dX5_fuelOf_0 rfl (lv_at hl 0 rfl) ?_
  refine va_get (D := G) (ci := 5) (v := .ref (aM 1)) (C := RX5) (T := TX5) (N := 16) hx hb hts uX5 hown hK hP 0 rfl rfl 0 (by decide) (hts _ kw579) (fun _ h9 => h9) rfl dX5_fuelOf_1 ?_
  refine lv_bipush (v := 57) hx hb dX5_fuelOf_4 (by decide) ?_
  refine lv_aload_n hx hb dX5_fuelOf_6 rfl (lv_at hl 0 rfl) ?_
  refine lv_iload_n hx hb dX5_fuelOf_7 rfl (lv_at hl 1 rfl) ?_
  refine lv_iconst (v := 4) hx hb dX5_fuelOf_8 (by decide) ?_
  obtain ⟨q1, hq1, h⟩ := bd_s h
  refine kVi (n := 2) (C := RX5) (ws' := wM cI cJ aM row tot tab goa bes tic txt par sav bwh bpr bse len mat ask hh ++ ([] : va_W)) (As := [.int p0, .int 4]) (rest := [.int 57, .ref (aM 1)]) hx hb hml hown hts (c_X5_of l G cI cJ cZ cO cA e aM _ row tot tab goa bes tic txt par sav bwh bpr bse len mat ask hh p0 4 hq1) (tb_V kw657 kw659 kv17 kw7 kw660) rfl rfl (by decide +kernel) ⟨Nat.le_of_ble_eq_true rfl, Nat.le_of_ble_eq_true rfl⟩ hK hP hD hS hA hE 0 rfl rfl [0, 1, 2, 3, 4, 5, 6, 7, 8] [] rfl rfl rfl 9 ⟨rfl, rfl⟩ (by decide +kernel) (by decide +kernel) rfl rfl hl.1 (Nat.le_of_ble_eq_true rfl) ⟨Nat.zero_le _, Nat.zero_le _⟩ dX5_fuelOf_9 (fun H locs hP hD hS => ?_)
  refine lv_iadd hx hb dX5_fuelOf_12 ?_
  obtain ⟨g2, h⟩ := gd_s h
  refine va_iald hx hb hK hP 1 0 rfl rfl (ib_in g2) dX5_fuelOf_13 ?_
  rw [← Option.some.inj h]
  exact kri hx hb hr hlk rfl rfl hP hD hS hK dX5_fuelOf_14

/-! X5_isUsable -/
def f_X5_isUsable (row : Nat → Int32) (p0 : Int32) : Option (Int32) :=
  (f_X5_of row p0 6).bind (fun q1 => if q1 = 0 then ((f_X5_fuelOf row p0).bind (fun q3 => if q3 < 600 then (some 0) else (some 1))) else (some 0))

set_option maxHeartbeats 4000000 in
set_option maxRecDepth 100000 in
theorem c_X5_isUsable (l : Launch) (G : va_G) (cI cJ cZ cO cA : ClassId) (e : Nat × Nat) (aM : Nat → Nat) (sz : Nat) (row : Nat → Int32) (tot : Nat → Int64) (tab : Nat → Int64) (goa : Nat → Int64) (bes : Nat → Int64) (tic : Nat → Int64) (txt : Nat → Int32) (par : Nat → Int32) (sav : Int32) (bwh : Int64) (bpr : Int64) (bse : Int32) (len : Int32) (mat : Int32) (ask : Int32) (hh : Int64) (p0 : Int32) {res : Int32} (hf : f_X5_isUsable row p0 = some res) : MetI l yX5_isUsable cX5_isUsable 2 .boolean ({ frames := 2, cells := 0, slots := 0, locals := 43 } : Room) [.ref (aM 0), .int p0] G (ty5 cI cJ cZ cO cA) e (wM cI cJ aM row tot tab goa bes tic txt par sav bwh bpr bse len mat ask hh ++ ([] : va_W)) (wM cI cJ aM row tot tab goa bes tic txt par sav bwh bpr bse len mat ask hh ++ ([] : va_W)) sz res := by
  refine g_body (QQ := fun A => (qI G (ty5 cI cJ cZ cO cA) A (wM cI cJ aM row tot tab goa bes tic txt par sav bwh bpr bse len mat ask hh ++ ([] : va_W)) res)) (own := RX5) (by decide) rfl (Nat.le_of_ble_eq_true rfl) ?_
  intro p ev s m below meth c A ls hx hb hr hml hown hts hlk hA hP hD hS hK hE hl
  have hl : lv_has ls 2 [(0, .ref (aM 0)), (1, .int p0)] := hl
  show W p l ev ({ frames := 2, cells := 0, slots := 0, locals := 43 } : Room) s m ([.ref (aM 0), .int p0] : List Value).toArray below meth c s.heap [] 0 0 (MQ below (qI G (ty5 cI cJ cZ cO cA) A (wM cI cJ aM row tot tab goa bes tic txt par sav bwh bpr bse len mat ask hh ++ ([] : va_W)) res) ([.ref (aM 0), .int p0] : List Value).toArray s 0 0 A) (F0 m 0 ls [])
  have h := hf
  unfold f_X5_isUsable at h
  refine lv_aload_n hx hb dX5_isUsable_0 rfl (lv_at hl 0 rfl) ?_
  refine lv_iload_n hx hb dX5_isUsable_1 rfl (lv_at hl 1 rfl) ?_
  refine lv_bipush (v := 6) hx hb dX5_isUsable_2 (by decide) ?_
  obtain ⟨q1, hq1, h⟩ := bd_s h
  refine kVi (n := 2) (C := RX5) (ws' := wM cI cJ aM row tot tab goa bes tic txt par sav bwh bpr bse len mat ask hh ++ ([] : va_W)) (As := [.int p0, .int 6]) (rest := []) hx hb hml hown hts (c_X5_of l G cI cJ cZ cO cA e aM _ row tot tab goa bes tic txt par sav bwh bpr bse len mat ask hh p0 6 hq1) (tb_V kw657 kw659 kv17 kw7 kw660) rfl rfl (by decide +kernel) ⟨Nat.le_of_ble_eq_true rfl, Nat.le_of_ble_eq_true rfl⟩ hK hP hD hS hA hE 0 rfl rfl [0, 1, 2, 3, 4, 5, 6, 7, 8] [] rfl rfl rfl 9 ⟨rfl, rfl⟩ (by decide +kernel) (by decide +kernel) rfl rfl hl.1 (Nat.le_of_ble_eq_true rfl) ⟨Nat.zero_le _, Nat.zero_le _⟩ dX5_isUsable_4 (fun H locs hP hD hS => ?_)
  refine lv_if_ne (tgt := 25) hx hb dX5_isUsable_7 (by decide) (fun c2 => ?_) (fun c2 => ?_)
  · replace h := (if_neg c2).symm.trans h
    refine lv_iconst (v := 0) hx hb dX5_isUsable_25 (by decide) ?_
    rw [← Option.some.inj h]
    exact kri hx hb hr hlk rfl rfl hP hD hS hK dX5_isUsable_26
  · replace h := (if_pos c2).symm.trans h
    refine lv_aload_n hx hb dX5_isUsable_10 rfl (lv_at hl 0 rfl) ?_
    refine lv_iload_n hx hb dX5_isUsable_11 rfl (lv_at hl 1 rfl) ?_
    obtain ⟨q3, hq3, h⟩ := bd_s h
    refine kVi (n := 1) (C := RX5) (ws' := wM cI cJ aM row tot tab goa bes tic txt par sav bwh bpr bse len mat ask hh ++ ([] : va_W)) (As := [.int p0]) (rest := []) hx hb hml hown hts (c_X5_fuelOf l G cI cJ cZ cO cA e aM _ row tot tab goa bes tic txt par sav bwh bpr bse len mat ask hh p0 hq3) (tb_V kw673 kw675 kv19 kw7 kw676) rfl rfl (by decide +kernel) ⟨Nat.le_of_ble_eq_true rfl, Nat.le_of_ble_eq_true rfl⟩ hK hP hD hS hA hE 0 rfl rfl [0, 1, 2, 3, 4, 5, 6, 7, 8] [] rfl rfl rfl 9 ⟨rfl, rfl⟩ (by decide +kernel) (by decide +kernel) rfl rfl hl.1 (Nat.le_of_ble_eq_true rfl) ⟨Nat.zero_le _, Nat.zero_le _⟩ dX5_isUsable_12 (fun H locs hP hD hS => ?_)
    refine lv_sipush (v := 600) hx hb dX5_isUsable_15 (by decide) ?_
    refine lv_icmp_lt (tgt := 25) hx hb dX5_isUsable_18 (by decide) (fun c4 => ?_) (fun c4 => ?_)
    · replace h := (if_pos c4).symm.trans h
      refine lv_iconst (v := 0) hx hb dX5_isUsable_25 (by decide) ?_
      rw [← Option.some.inj h]
      exact kri hx hb hr hlk rfl rfl hP hD hS hK dX5_isUsable_26
    · replace h := (if_neg c4).symm.trans h
      refine lv_iconst (v := 1) hx hb dX5_isUsable_21 (by decide) ?_
      refine lv_goto (tgt := 26) hx hb dX5_isUsable_22 (by decide) ?_
      rw [← Option.some.inj h]
      exact kri hx hb hr hlk rfl rfl hP hD hS hK dX5_isUsable_26

/-! X5_isRunning -/
def f_X5_isRunning (row : Nat → Int32) (p0 : Int32) : Option (Int32) :=
  (f_X5_of row p0 6).bind (fun q1 => if q1 = 2 then ((f_X5_fuelOf row p0).bind (fun q3 => (f_X5_of row p0 3).bind (fun q4 => if q3 < (20 * q4) then (some 0) else (some 1)))) else (some 0))

set_option maxHeartbeats 4000000 in
set_option maxRecDepth 100000 in
theorem c_X5_isRunning (l : Launch) (G : va_G) (cI cJ cZ cO cA : ClassId) (e : Nat × Nat) (aM : Nat → Nat) (sz : Nat) (row : Nat → Int32) (tot : Nat → Int64) (tab : Nat → Int64) (goa : Nat → Int64) (bes : Nat → Int64) (tic : Nat → Int64) (txt : Nat → Int32) (par : Nat → Int32) (sav : Int32) (bwh : Int64) (bpr : Int64) (bse : Int32) (len : Int32) (mat : Int32) (ask : Int32) (hh : Int64) (p0 : Int32) {res : Int32} (hf : f_X5_isRunning row p0 = some res) : MetI l yX5_isRunning cX5_isRunning 2 .boolean ({ frames := 2, cells := 0, slots := 0, locals := 43 } : Room) [.ref (aM 0), .int p0] G (ty5 cI cJ cZ cO cA) e (wM cI cJ aM row tot tab goa bes tic txt par sav bwh bpr bse len mat ask hh ++ ([] : va_W)) (wM cI cJ aM row tot tab goa bes tic txt par sav bwh bpr bse len mat ask hh ++ ([] : va_W)) sz res := by
  refine g_body (QQ := fun A => (qI G (ty5 cI cJ cZ cO cA) A (wM cI cJ aM row tot tab goa bes tic txt par sav bwh bpr bse len mat ask hh ++ ([] : va_W)) res)) (own := RX5) (by decide) rfl (Nat.le_of_ble_eq_true rfl) ?_
  intro p ev s m below meth c A ls hx hb hr hml hown hts hlk hA hP hD hS hK hE hl
  have hl : lv_has ls 2 [(0, .ref (aM 0)), (1, .int p0)] := hl
  show W p l ev ({ frames := 2, cells := 0, slots := 0, locals := 43 } : Room) s m ([.ref (aM 0), .int p0] : List Value).toArray below meth c s.heap [] 0 0 (MQ below (qI G (ty5 cI cJ cZ cO cA) A (wM cI cJ aM row tot tab goa bes tic txt par sav bwh bpr bse len mat ask hh ++ ([] : va_W)) res) ([.ref (aM 0), .int p0] : List Value).toArray s 0 0 A) (F0 m 0 ls [])
  have h := hf
  unfold f_X5_isRunning at h
  refine lv_aload_n hx hb dX5_isRunning_0 rfl (lv_at hl 0 rfl) ?_
  refine lv_iload_n hx hb dX5_isRunning_1 rfl (lv_at hl 1 rfl) ?_
  refine lv_bipush (v := 6) hx hb dX5_isRunning_2 (by decide) ?_
  obtain ⟨q1, hq1, h⟩ := bd_s h
  refine kVi (n := 2) (C := RX5) (ws' := wM cI cJ aM row tot tab goa bes tic txt par sav bwh bpr bse len mat ask hh ++ ([] : va_W)) (As := [.int p0, .int 6]) (rest := []) hx hb hml hown hts (c_X5_of l G cI cJ cZ cO cA e aM _ row tot tab goa bes tic txt par sav bwh bpr bse len mat ask hh p0 6 hq1) (tb_V kw657 kw659 kv17 kw7 kw660) rfl rfl (by decide +kernel) ⟨Nat.le_of_ble_eq_true rfl, Nat.le_of_ble_eq_true rfl⟩ hK hP hD hS hA hE 0 rfl rfl [0, 1, 2, 3, 4, 5, 6, 7, 8] [] rfl rfl rfl 9 ⟨rfl, rfl⟩ (by decide +kernel) (by decide +kernel) rfl rfl hl.1 (Nat.le_of_ble_eq_true rfl) ⟨Nat.zero_le _, Nat.zero_le _⟩ dX5_isRunning_4 (fun H locs hP hD hS => ?_)
  refine lv_iconst (v := 2) hx hb dX5_isRunning_7 (by decide) ?_
  refine lv_icmp_ne (tgt := 32) hx hb dX5_isRunning_8 (by decide) (fun c2 => ?_) (fun c2 => ?_)
  · replace h := (if_neg c2).symm.trans h
    refine lv_iconst (v := 0) hx hb dX5_isRunning_32 (by decide) ?_
    rw [← Option.some.inj h]
    exact kri hx hb hr hlk rfl rfl hP hD hS hK dX5_isRunning_33
  · replace h := (if_pos c2).symm.trans h
    refine lv_aload_n hx hb dX5_isRunning_11 rfl (lv_at hl 0 rfl) ?_
    refine lv_iload_n hx hb dX5_isRunning_12 rfl (lv_at hl 1 rfl) ?_
    obtain ⟨q3, hq3, h⟩ := bd_s h
    refine kVi (n := 1) (C := RX5) (ws' := wM cI cJ aM row tot tab goa bes tic txt par sav bwh bpr bse len mat ask hh ++ ([] : va_W)) (As := [.int p0]) (rest := []) hx hb hml hown hts (c_X5_fuelOf l G cI cJ cZ cO cA e aM _ row tot tab goa bes tic txt par sav bwh bpr bse len mat ask hh p0 hq3) (tb_V kw673 kw675 kv19 kw7 kw676) rfl rfl (by decide +kernel) ⟨Nat.le_of_ble_eq_true rfl, Nat.le_of_ble_eq_true rfl⟩ hK hP hD hS hA hE 0 rfl rfl [0, 1, 2, 3, 4, 5, 6, 7, 8] [] rfl rfl rfl 9 ⟨rfl, rfl⟩ (by decide +kernel) (by decide +kernel) rfl rfl hl.1 (Nat.le_of_ble_eq_true rfl) ⟨Nat.zero_le _, Nat.zero_le _⟩ dX5_isRunning_13 (fun H locs hP hD hS => ?_)
    refine lv_bipush (v := 20) hx hb dX5_isRunning_16 (by decide) ?_
    refine lv_aload_n hx hb dX5_isRunning_18 rfl (lv_at hl 0 rfl) ?_
    refine lv_iload_n hx hb dX5_isRunning_19 rfl (lv_at hl 1 rfl) ?_
    refine lv_iconst (v := 3) hx hb dX5_isRunning_20 (by decide) ?_
    obtain ⟨q4, hq4, h⟩ := bd_s h
    refine kVi (n := 2) (C := RX5) (ws' := wM cI cJ aM row tot tab goa bes tic txt par sav bwh bpr bse len mat ask hh ++ ([] : va_W)) (As := [.int p0, .int 3]) (rest := [.int 20, .int q3]) hx hb hml hown hts (c_X5_of l G cI cJ cZ cO cA e aM _ row tot tab goa bes tic txt par sav bwh bpr bse len mat ask hh p0 3 hq4) (tb_V kw657 kw659 kv17 kw7 kw660) rfl rfl (by decide +kernel) ⟨Nat.le_of_ble_eq_true rfl, Nat.le_of_ble_eq_true rfl⟩ hK hP hD hS hA hE 0 rfl rfl [0, 1, 2, 3, 4, 5, 6, 7, 8] [] rfl rfl rfl 9 ⟨rfl, rfl⟩ (by decide +kernel) (by decide +kernel) rfl rfl hl.1 (Nat.le_of_ble_eq_true rfl) ⟨Nat.zero_le _, Nat.zero_le _⟩ dX5_isRunning_21 (fun H locs hP hD hS => ?_)
    refine lv_imul hx hb dX5_isRunning_24 ?_
    refine lv_icmp_lt (tgt := 32) hx hb dX5_isRunning_25 (by decide) (fun c5 => ?_) (fun c5 => ?_)
    · replace h := (if_pos c5).symm.trans h
      refine lv_iconst (v := 0) hx hb dX5_isRunning_32 (by decide) ?_
      rw [← Option.some.inj h]
      exact kri hx hb hr hlk rfl rfl hP hD hS hK dX5_isRunning_33
    · replace h := (if_neg c5).symm.trans h
      refine lv_iconst (v := 1) hx hb dX5_isRunning_28 (by decide) ?_
      refine lv_goto (tgt := 33) hx hb dX5_isRunning_29 (by decide) ?_
      rw [← Option.some.inj h]
      exact kri hx hb hr hlk rfl rfl hP hD hS hK dX5_isRunning_33

/-! X5_unitOf -/
def f_X5_unitOf_j92 (t0 : Int32) (t1 : Int32) : Option (Int32) :=
  some (t1 * t0)
def f_X5_unitOf_j46 (row : Nat → Int32) (v1 : Int32) (v2 : Int32) (v4 : Int32) (t0 : Int32) : Option (Int32) :=
  (f_X5_of row v1 3).bind (fun q6 => if v2 = 0 then (f_X5_unitOf_j92 v4 q6) else (if v2 = 1 then (f_X5_unitOf_j92 t0 q6) else ((f_X5_of row v1 0).bind (fun q10 => (f_X5_of row v1 1).bind (fun q11 => f_X5_unitOf_j92 ((q10 * t0) - (q11 * v4)) q6)))))
def f_X5_unitOf_j25 (row : Nat → Int32) (v1 : Int32) (v2 : Int32) (v3 : Int32) (t0 : Int32) : Option (Int32) :=
  if v3 = 1 then (f_X5_unitOf_j46 row v1 v2 t0 1) else (if v3 = 3 then (f_X5_unitOf_j46 row v1 v2 t0 (-1)) else (f_X5_unitOf_j46 row v1 v2 t0 0))
def f_X5_unitOf (row : Nat → Int32) (p0 : Int32) (p1 : Int32) : Option (Int32) :=
  (f_X5_of row p0 2).bind (fun q1 => if q1 = 0 then (f_X5_unitOf_j25 row p0 p1 q1 1) else (if q1 = 2 then (f_X5_unitOf_j25 row p0 p1 q1 (-1)) else (f_X5_unitOf_j25 row p0 p1 q1 0)))

set_option maxHeartbeats 4000000 in
set_option maxRecDepth 100000 in
theorem c_X5_unitOf (l : Launch) (G : va_G) (cI cJ cZ cO cA : ClassId) (e : Nat × Nat) (aM : Nat → Nat) (sz : Nat) (row : Nat → Int32) (tot : Nat → Int64) (tab : Nat → Int64) (goa : Nat → Int64) (bes : Nat → Int64) (tic : Nat → Int64) (txt : Nat → Int32) (par : Nat → Int32) (sav : Int32) (bwh : Int64) (bpr : Int64) (bse : Int32) (len : Int32) (mat : Int32) (ask : Int32) (hh : Int64) (p0 : Int32) (p1 : Int32) {res : Int32} (hf : f_X5_unitOf row p0 p1 = some res) : MetI l yX5_unitOf cX5_unitOf 6 .int ({ frames := 1, cells := 0, slots := 0, locals := 22 } : Room) [.ref (aM 0), .int p0, .int p1] G (ty5 cI cJ cZ cO cA) e (wM cI cJ aM row tot tab goa bes tic txt par sav bwh bpr bse len mat ask hh ++ ([] : va_W)) (wM cI cJ aM row tot tab goa bes tic txt par sav bwh bpr bse len mat ask hh ++ ([] : va_W)) sz res := by
  refine g_body (QQ := fun A => (qI G (ty5 cI cJ cZ cO cA) A (wM cI cJ aM row tot tab goa bes tic txt par sav bwh bpr bse len mat ask hh ++ ([] : va_W)) res)) (own := RX5) (by decide) rfl (Nat.le_of_ble_eq_true rfl) ?_
  intro p ev s m below meth c A ls hx hb hr hml hown hts hlk hA hP hD hS hK hE hl
  have hl : lv_has ls 6 [(0, .ref (aM 0)), (1, .int p0), (2, .int p1)] := hl
  show W p l ev ({ frames := 1, cells := 0, slots := 0, locals := 22 } : Room) s m ([.ref (aM 0), .int p0, .int p1] : List Value).toArray below meth c s.heap [] 0 0 (MQ below (qI G (ty5 cI cJ cZ cO cA) A (wM cI cJ aM row tot tab goa bes tic txt par sav bwh bpr bse len mat ask hh ++ ([] : va_W)) res) ([.ref (aM 0), .int p0, .int p1] : List Value).toArray s 0 0 A) (F0 m 0 ls [])
  have h := hf
  unfold f_X5_unitOf at h
  refine lv_aload_n hx hb dX5_unitOf_0 rfl (lv_at hl 0 rfl) ?_
  refine lv_iload_n hx hb dX5_unitOf_1 rfl (lv_at hl 1 rfl) ?_
  refine lv_iconst (v := 2) hx hb dX5_unitOf_2 (by decide) ?_
  obtain ⟨q1, hq1, h⟩ := bd_s h
  refine kVi (n := 2) (C := RX5) (ws' := wM cI cJ aM row tot tab goa bes tic txt par sav bwh bpr bse len mat ask hh ++ ([] : va_W)) (As := [.int p0, .int 2]) (rest := []) hx hb hml hown hts (c_X5_of l G cI cJ cZ cO cA e aM _ row tot tab goa bes tic txt par sav bwh bpr bse len mat ask hh p0 2 hq1) (tb_V kw657 kw659 kv17 kw7 kw660) rfl rfl (by decide +kernel) ⟨Nat.le_of_ble_eq_true rfl, Nat.le_of_ble_eq_true rfl⟩ hK hP hD hS hA hE 0 rfl rfl [0, 1, 2, 3, 4, 5, 6, 7, 8] [] rfl rfl rfl 9 ⟨rfl, rfl⟩ (by decide +kernel) (by decide +kernel) rfl rfl hl.1 (Nat.le_of_ble_eq_true rfl) ⟨Nat.zero_le _, Nat.zero_le _⟩ dX5_unitOf_3 (fun H locs hP hD hS => ?_)
  refine lv_istore_n (lv' := [(3, .int q1), (0, .ref (aM 0)), (1, .int p0), (2, .int p1)]) hx hb dX5_unitOf_6 rfl hl (by decide) rfl (fun ls hl => ?_)
  refine lv_iload_n hx hb dX5_unitOf_7 rfl (lv_at hl 0 rfl) ?_
  have hJ3 : ∀ (v3_3 : Int32) (t0_3 : Int32) (H : Heap) (locs : List Loc) (ls : Array Slot), f_X5_unitOf_j25 row p0 p1 v3_3 t0_3 = some res → va_P G vwCl (wM cI cJ aM row tot tab goa bes tic txt par sav bwh bpr bse len mat ask hh ++ ([] : va_W)) H → va_D A (wM cI cJ aM row tot tab goa bes tic txt par sav bwh bpr bse len mat ask hh ++ ([] : va_W)) → va_S A s.heap H locs → lv_has ls 6 [(0, .ref (aM 0)), (1, .int p0), (2, .int p1), (3, .int v3_3)] → W p l ev ({ frames := 1, cells := 0, slots := 0, locals := 22 } : Room) s m ([.ref (aM 0), .int p0, .int p1] : List Value).toArray below meth c H locs 0 0 (MQ below (qI G (ty5 cI cJ cZ cO cA) A (wM cI cJ aM row tot tab goa bes tic txt par sav bwh bpr bse len mat ask hh ++ ([] : va_W)) res) ([.ref (aM 0), .int p0, .int p1] : List Value).toArray s 0 0 A) (F0 m 25 ls [.int t0_3]) := by
    intro v3_3 t0_3 H locs ls h hP hD hS hl
    unfold f_X5_unitOf_j25 at h
    refine lv_istore (lv' := [(4, .int t0_3), (0, .ref (aM 0)), (1, .int p0), (2, .int p1), (3, .int v3_3)]) hx hb dX5_unitOf_25 hl (by decide) rfl (fun ls hl => ?_)
    refine lv_iload_n hx hb dX5_unitOf_27 rfl (lv_at hl 4 rfl) ?_
    refine lv_iconst (v := 1) hx hb dX5_unitOf_28 (by decide) ?_
    have hJ5 : ∀ (v4_5 : Int32) (t0_5 : Int32) (H : Heap) (locs : List Loc) (ls : Array Slot), f_X5_unitOf_j46 row p0 p1 v4_5 t0_5 = some res → va_P G vwCl (wM cI cJ aM row tot tab goa bes tic txt par sav bwh bpr bse len mat ask hh ++ ([] : va_W)) H → va_D A (wM cI cJ aM row tot tab goa bes tic txt par sav bwh bpr bse len mat ask hh ++ ([] : va_W)) → va_S A s.heap H locs → lv_has ls 6 [(0, .ref (aM 0)), (1, .int p0), (2, .int p1), (4, .int v4_5)] → W p l ev ({ frames := 1, cells := 0, slots := 0, locals := 22 } : Room) s m ([.ref (aM 0), .int p0, .int p1] : List Value).toArray below meth c H locs 0 0 (MQ below (qI G (ty5 cI cJ cZ cO cA) A (wM cI cJ aM row tot tab goa bes tic txt par sav bwh bpr bse len mat ask hh ++ ([] : va_W)) res) ([.ref (aM 0), .int p0, .int p1] : List Value).toArray s 0 0 A) (F0 m 46 ls [.int t0_5]) := by
      intro v4_5 t0_5 H locs ls h hP hD hS hl
      unfold f_X5_unitOf_j46 at h
      refine lv_istore (lv' := [(5, .int t0_5), (0, .ref (aM 0)), (1, .int p0), (2, .int p1), (4, .int v4_5)]) hx hb dX5_unitOf_46 hl (by decide) rfl (fun ls hl => ?_)
      refine lv_aload_n hx hb dX5_unitOf_48 rfl (lv_at hl 1 rfl) ?_
      refine lv_iload_n hx hb dX5_unitOf_49 rfl (lv_at hl 2 rfl) ?_
      refine lv_iconst (v := 3) hx hb dX5_unitOf_50 (by decide) ?_
      obtain ⟨q6, hq6, h⟩ := bd_s h
      refine kVi (n := 2) (C := RX5) (ws' := wM cI cJ aM row tot tab goa bes tic txt par sav bwh bpr bse len mat ask hh ++ ([] : va_W)) (As := [.int p0, .int 3]) (rest := []) hx hb hml hown hts (c_X5_of l G cI cJ cZ cO cA e aM _ row tot tab goa bes tic txt par sav bwh bpr bse len mat ask hh p0 3 hq6) (tb_V kw657 kw659 kv17 kw7 kw660) rfl rfl (by decide +kernel) ⟨Nat.le_of_ble_eq_true rfl, Nat.le_of_ble_eq_true rfl⟩ hK hP hD hS hA hE 0 rfl rfl [0, 1, 2, 3, 4, 5, 6, 7, 8] [] rfl rfl rfl 9 ⟨rfl, rfl⟩ (by decide +kernel) (by decide +kernel) rfl rfl hl.1 (Nat.le_of_ble_eq_true rfl) ⟨Nat.zero_le _, Nat.zero_le _⟩ dX5_unitOf_51 (fun H locs hP hD hS => ?_)
      refine lv_iload_n hx hb dX5_unitOf_54 rfl (lv_at hl 3 rfl) ?_
      have hJ8 : ∀ (t0_8 : Int32) (t1_8 : Int32) (H : Heap) (locs : List Loc) (ls : Array Slot), f_X5_unitOf_j92 t0_8 t1_8 = some res → va_P G vwCl (wM cI cJ aM row tot tab goa bes tic txt par sav bwh bpr bse len mat ask hh ++ ([] : va_W)) H → va_D A (wM cI cJ aM row tot tab goa bes tic txt par sav bwh bpr bse len mat ask hh ++ ([] : va_W)) → va_S A s.heap H locs → lv_has ls 6 [] → W p l ev ({ frames := 1, cells := 0, slots := 0, locals := 22 } : Room) s m ([.ref (aM 0), .int p0, .int p1] : List Value).toArray below meth c H locs 0 0 (MQ below (qI G (ty5 cI cJ cZ cO cA) A (wM cI cJ aM row tot tab goa bes tic txt par sav bwh bpr bse len mat ask hh ++ ([] : va_W)) res) ([.ref (aM 0), .int p0, .int p1] : List Value).toArray s 0 0 A) (F0 m 92 ls [.int t0_8, .int t1_8]) := by
        intro t0_8 t1_8 H locs ls h hP hD hS hl
        unfold f_X5_unitOf_j92 at h
        refine lv_imul hx hb dX5_unitOf_92 ?_
        rw [← Option.some.inj h]
        exact kri hx hb hr hlk rfl rfl hP hD hS hK dX5_unitOf_93
      refine lv_if_ne (tgt := 63) hx hb dX5_unitOf_55 (by decide) (fun c7 => ?_) (fun c7 => ?_)
      · replace h := (if_neg c7).symm.trans h
        refine lv_iload_n hx hb dX5_unitOf_63 rfl (lv_at hl 3 rfl) ?_
        refine lv_iconst (v := 1) hx hb dX5_unitOf_64 (by decide) ?_
        refine lv_icmp_ne (tgt := 73) hx hb dX5_unitOf_65 (by decide) (fun c9 => ?_) (fun c9 => ?_)
        · replace h := (if_neg c9).symm.trans h
          refine lv_aload_n hx hb dX5_unitOf_73 rfl (lv_at hl 1 rfl) ?_
          refine lv_iload_n hx hb dX5_unitOf_74 rfl (lv_at hl 2 rfl) ?_
          refine lv_iconst (v := 0) hx hb dX5_unitOf_75 (by decide) ?_
          obtain ⟨q10, hq10, h⟩ := bd_s h
          refine kVi (n := 2) (C := RX5) (ws' := wM cI cJ aM row tot tab goa bes tic txt par sav bwh bpr bse len mat ask hh ++ ([] : va_W)) (As := [.int p0, .int 0]) (rest := [.int q6]) hx hb hml hown hts (c_X5_of l G cI cJ cZ cO cA e aM _ row tot tab goa bes tic txt par sav bwh bpr bse len mat ask hh p0 0 hq10) (tb_V kw657 kw659 kv17 kw7 kw660) rfl rfl (by decide +kernel) ⟨Nat.le_of_ble_eq_true rfl, Nat.le_of_ble_eq_true rfl⟩ hK hP hD hS hA hE 0 rfl rfl [0, 1, 2, 3, 4, 5, 6, 7, 8] [] rfl rfl rfl 9 ⟨rfl, rfl⟩ (by decide +kernel) (by decide +kernel) rfl rfl hl.1 (Nat.le_of_ble_eq_true rfl) ⟨Nat.zero_le _, Nat.zero_le _⟩ dX5_unitOf_76 (fun H locs hP hD hS => ?_)
          refine lv_iload hx hb dX5_unitOf_79 (lv_at hl 0 rfl) ?_
          refine lv_imul hx hb dX5_unitOf_81 ?_
          refine lv_aload_n hx hb dX5_unitOf_82 rfl (lv_at hl 1 rfl) ?_
          refine lv_iload_n hx hb dX5_unitOf_83 rfl (lv_at hl 2 rfl) ?_
          refine lv_iconst (v := 1) hx hb dX5_unitOf_84 (by decide) ?_
          obtain ⟨q11, hq11, h⟩ := bd_s h
          refine kVi (n := 2) (C := RX5) (ws' := wM cI cJ aM row tot tab goa bes tic txt par sav bwh bpr bse len mat ask hh ++ ([] : va_W)) (As := [.int p0, .int 1]) (rest := [.int (q10 * t0_5), .int q6]) hx hb hml hown hts (c_X5_of l G cI cJ cZ cO cA e aM _ row tot tab goa bes tic txt par sav bwh bpr bse len mat ask hh p0 1 hq11) (tb_V kw657 kw659 kv17 kw7 kw660) rfl rfl (by decide +kernel) ⟨Nat.le_of_ble_eq_true rfl, Nat.le_of_ble_eq_true rfl⟩ hK hP hD hS hA hE 0 rfl rfl [0, 1, 2, 3, 4, 5, 6, 7, 8] [] rfl rfl rfl 9 ⟨rfl, rfl⟩ (by decide +kernel) (by decide +kernel) rfl rfl hl.1 (Nat.le_of_ble_eq_true rfl) ⟨Nat.zero_le _, Nat.zero_le _⟩ dX5_unitOf_85 (fun H locs hP hD hS => ?_)
          refine lv_iload hx hb dX5_unitOf_88 (lv_at hl 4 rfl) ?_
          refine lv_imul hx hb dX5_unitOf_90 ?_
          refine lv_isub hx hb dX5_unitOf_91 ?_
          exact hJ8 ((q10 * t0_5) - (q11 * v4_5)) q6 _ _ _ h hP hD hS (lv_sub hl [] rfl)
        · replace h := (if_pos c9).symm.trans h
          refine lv_iload hx hb dX5_unitOf_68 (lv_at hl 0 rfl) ?_
          refine lv_goto (tgt := 92) hx hb dX5_unitOf_70 (by decide) ?_
          exact hJ8 t0_5 q6 _ _ _ h hP hD hS (lv_sub hl [] rfl)
      · replace h := (if_pos c7).symm.trans h
        refine lv_iload hx hb dX5_unitOf_58 (lv_at hl 4 rfl) ?_
        refine lv_goto (tgt := 92) hx hb dX5_unitOf_60 (by decide) ?_
        exact hJ8 v4_5 q6 _ _ _ h hP hD hS (lv_sub hl [] rfl)
    refine lv_icmp_ne (tgt := 36) hx hb dX5_unitOf_29 (by decide) (fun c4 => ?_) (fun c4 => ?_)
    · replace h := (if_neg c4).symm.trans h
      refine lv_iload_n hx hb dX5_unitOf_36 rfl (lv_at hl 4 rfl) ?_
      refine lv_iconst (v := 3) hx hb dX5_unitOf_37 (by decide) ?_
      refine lv_icmp_ne (tgt := 45) hx hb dX5_unitOf_38 (by decide) (fun c12 => ?_) (fun c12 => ?_)
      · replace h := (if_neg c12).symm.trans h
        refine lv_iconst (v := 0) hx hb dX5_unitOf_45 (by decide) ?_
        exact hJ5 t0_3 0 _ _ _ h hP hD hS (lv_sub hl [1, 2, 3, 0] rfl)
      · replace h := (if_pos c12).symm.trans h
        refine lv_iconst (v := (-1)) hx hb dX5_unitOf_41 (by decide) ?_
        refine lv_goto (tgt := 46) hx hb dX5_unitOf_42 (by decide) ?_
        exact hJ5 t0_3 (-1) _ _ _ h hP hD hS (lv_sub hl [1, 2, 3, 0] rfl)
    · replace h := (if_pos c4).symm.trans h
      refine lv_iconst (v := 1) hx hb dX5_unitOf_32 (by decide) ?_
      refine lv_goto (tgt := 46) hx hb dX5_unitOf_33 (by decide) ?_
      exact hJ5 t0_3 1 _ _ _ h hP hD hS (lv_sub hl [1, 2, 3, 0] rfl)
  refine lv_if_ne (tgt := 15) hx hb dX5_unitOf_8 (by decide) (fun c2 => ?_) (fun c2 => ?_)
  · replace h := (if_neg c2).symm.trans h
    refine lv_iload_n hx hb dX5_unitOf_15 rfl (lv_at hl 0 rfl) ?_
    refine lv_iconst (v := 2) hx hb dX5_unitOf_16 (by decide) ?_
    refine lv_icmp_ne (tgt := 24) hx hb dX5_unitOf_17 (by decide) (fun c13 => ?_) (fun c13 => ?_)
    · replace h := (if_neg c13).symm.trans h
      refine lv_iconst (v := 0) hx hb dX5_unitOf_24 (by decide) ?_
      exact hJ3 q1 0 _ _ _ h hP hD hS (lv_sub hl [1, 2, 3, 0] rfl)
    · replace h := (if_pos c13).symm.trans h
      refine lv_iconst (v := (-1)) hx hb dX5_unitOf_20 (by decide) ?_
      refine lv_goto (tgt := 25) hx hb dX5_unitOf_21 (by decide) ?_
      exact hJ3 q1 (-1) _ _ _ h hP hD hS (lv_sub hl [1, 2, 3, 0] rfl)
  · replace h := (if_pos c2).symm.trans h
    refine lv_iconst (v := 1) hx hb dX5_unitOf_11 (by decide) ?_
    refine lv_goto (tgt := 25) hx hb dX5_unitOf_12 (by decide) ?_
    exact hJ3 q1 1 _ _ _ h hP hD hS (lv_sub hl [1, 2, 3, 0] rfl)

/-! X5_running -/
def f_X5_running_j30 (v2 : Int32) (t0 : Int32) (t1 : Int32) : Option ((Int32 × Int32) ⊕ (Int32)) :=
  some (Sum.inl ((t1 ||| t0), (v2 + 1)))
def f_X5_running_b4 (row : Nat → Int32) (z1 : Int32 × Int32) : Option ((Int32 × Int32) ⊕ (Int32)) :=
  gd (ib 0 708) (if (row (0 : Int32).toNatClampNeg) ≤ z1.2 then (some (Sum.inr z1.1)) else ((f_X5_isRunning row z1.2).bind (fun q4 => if q4 = 0 then (f_X5_running_j30 z1.2 0 z1.1) else (f_X5_running_j30 z1.2 (1 <<< (z1.2 &&& 31)) z1.1))))
def f_X5_running (row : Nat → Int32) : Option (Int32) :=
  (lp (f_X5_running_b4 row) 1000 (0, 0)).bind (fun q1 => some q1)

set_option maxHeartbeats 4000000 in
set_option maxRecDepth 100000 in
theorem c_X5_running (l : Launch) (G : va_G) (cI cJ cZ cO cA : ClassId) (e : Nat × Nat) (aM : Nat → Nat) (sz : Nat) (row : Nat → Int32) (tot : Nat → Int64) (tab : Nat → Int64) (goa : Nat → Int64) (bes : Nat → Int64) (tic : Nat → Int64) (txt : Nat → Int32) (par : Nat → Int32) (sav : Int32) (bwh : Int64) (bpr : Int64) (bse : Int32) (len : Int32) (mat : Int32) (ask : Int32) (hh : Int64) {res : Int32} (hf : f_X5_running row = some res) : MetI l yX5_running cX5_running 3 .int ({ frames := 3, cells := 0, slots := 0, locals := 64 } : Room) [.ref (aM 0)] G (ty5 cI cJ cZ cO cA) e (wM cI cJ aM row tot tab goa bes tic txt par sav bwh bpr bse len mat ask hh ++ ([] : va_W)) (wM cI cJ aM row tot tab goa bes tic txt par sav bwh bpr bse len mat ask hh ++ ([] : va_W)) sz res := by
  refine g_body (QQ := fun A => (qI G (ty5 cI cJ cZ cO cA) A (wM cI cJ aM row tot tab goa bes tic txt par sav bwh bpr bse len mat ask hh ++ ([] : va_W)) res)) (own := RX5) (by decide) rfl (Nat.le_of_ble_eq_true rfl) ?_
  intro p ev s m below meth c A ls hx hb hr hml hown hts hlk hA hP hD hS hK hE hl
  have hl : lv_has ls 3 [(0, .ref (aM 0))] := hl
  show W p l ev ({ frames := 3, cells := 0, slots := 0, locals := 64 } : Room) s m ([.ref (aM 0)] : List Value).toArray below meth c s.heap [] 0 0 (MQ below (qI G (ty5 cI cJ cZ cO cA) A (wM cI cJ aM row tot tab goa bes tic txt par sav bwh bpr bse len mat ask hh ++ ([] : va_W)) res) ([.ref (aM 0)] : List Value).toArray s 0 0 A) (F0 m 0 ls [])
  have h := hf
  unfold f_X5_running at h
  refine lv_iconst (v := 0) hx hb dX5_running_0 (by decide) ?_
  refine lv_istore_n (lv' := [(1, .int 0), (0, .ref (aM 0))]) hx hb dX5_running_1 rfl hl (by decide) rfl (fun ls hl => ?_)
  refine lv_iconst (v := 0) hx hb dX5_running_2 (by decide) ?_
  refine lv_istore_n (lv' := [(2, .int 0), (1, .int 0), (0, .ref (aM 0))]) hx hb dX5_running_3 rfl hl (by decide) rfl (fun ls hl => ?_)
  obtain ⟨q1, hq1, h⟩ := bd_s h
  have hX1_0 : ∀ (x1 : Int32) (H : Heap) (locs : List Loc) (ls : Array Slot), x1 = q1 → va_P G vwCl (wM cI cJ aM row tot tab goa bes tic txt par sav bwh bpr bse len mat ask hh ++ ([] : va_W)) H → va_D A (wM cI cJ aM row tot tab goa bes tic txt par sav bwh bpr bse len mat ask hh ++ ([] : va_W)) → va_S A s.heap H locs → lv_has ls 3 [(1, .int x1)] → W p l ev ({ frames := 3, cells := 0, slots := 0, locals := 64 } : Room) s m ([.ref (aM 0)] : List Value).toArray below meth c H locs 0 0 (MQ below (qI G (ty5 cI cJ cZ cO cA) A (wM cI cJ aM row tot tab goa bes tic txt par sav bwh bpr bse len mat ask hh ++ ([] : va_W)) res) ([.ref (aM 0)] : List Value).toArray s 0 0 A) (F0 m 38 ls []) := by
    intro x1 H locs ls e1 hP hD hS hl
    replace e1 := e1.symm
    subst e1
    refine lv_iload_n hx hb dX5_running_38 rfl (lv_at hl 0 rfl) ?_
    rw [← Option.some.inj h]
    exact kri hx hb hr hlk rfl rfl hP hD hS hK dX5_running_39
  have hL1 : ∀ (n : Nat) (z1 : Int32 × Int32) (H : Heap) (locs : List Loc) (ls : Array Slot), lp (f_X5_running_b4 row) n z1 = some q1 → va_P G vwCl (wM cI cJ aM row tot tab goa bes tic txt par sav bwh bpr bse len mat ask hh ++ ([] : va_W)) H → va_D A (wM cI cJ aM row tot tab goa bes tic txt par sav bwh bpr bse len mat ask hh ++ ([] : va_W)) → va_S A s.heap H locs → lv_has ls 3 [(0, .ref (aM 0)), (1, .int z1.1), (2, .int z1.2)] → W p l ev ({ frames := 3, cells := 0, slots := 0, locals := 64 } : Room) s m ([.ref (aM 0)] : List Value).toArray below meth c H locs 0 0 (MQ below (qI G (ty5 cI cJ cZ cO cA) A (wM cI cJ aM row tot tab goa bes tic txt par sav bwh bpr bse len mat ask hh ++ ([] : va_W)) res) ([.ref (aM 0)] : List Value).toArray s 0 0 A) (F0 m 4 ls []) := by
    intro n
    induction n with
    | zero => intro z1 H locs ls h; cases h
    | succ n ih1 =>
      intro z1 H locs ls h hP hD hS hl
      obtain ⟨o1, h, h1⟩ := lp_s h
      unfold f_X5_running_b4 at h
      refine lv_iload_n hx hb dX5_running_4 rfl (lv_at hl 2 rfl) ?_
      refine lv_aload_n hx hb dX5_running_5 rfl (lv_at hl 0 rfl) ?_
      refine va_get (D := G) (ci := 5) (v := .ref (aM 1)) (C := RX5) (T := TX5) (N := 16) hx hb hts uX5 hown hK hP 0 rfl rfl 0 (by decide) (hts _ kw579) (fun _ h9 => h9) rfl dX5_running_6 ?_
      refine lv_iconst (v := 0) hx hb dX5_running_9 (by decide) ?_
      obtain ⟨g2, h⟩ := gd_s h
      refine va_iald hx hb hK hP 1 0 rfl rfl (ib_in g2) dX5_running_10 ?_
      refine lv_icmp_ge (tgt := 38) hx hb dX5_running_11 (by decide) (fun c3 => ?_) (fun c3 => ?_)
      · replace h := (if_pos c3).symm.trans h
        rw [← Option.some.inj h] at h1
        exact hX1_0 z1.1 _ _ _ (lp_x h1) hP hD hS (lv_sub hl [1] rfl)
      · replace h := (if_neg c3).symm.trans h
        refine lv_iload_n hx hb dX5_running_14 rfl (lv_at hl 1 rfl) ?_
        refine lv_aload_n hx hb dX5_running_15 rfl (lv_at hl 0 rfl) ?_
        refine lv_iload_n hx hb dX5_running_16 rfl (lv_at hl 2 rfl) ?_
        obtain ⟨q4, hq4, h⟩ := bd_s h
        refine kVi (n := 1) (C := RX5) (ws' := wM cI cJ aM row tot tab goa bes tic txt par sav bwh bpr bse len mat ask hh ++ ([] : va_W)) (As := [.int z1.2]) (rest := [.int z1.1]) hx hb hml hown hts (c_X5_isRunning l G cI cJ cZ cO cA e aM _ row tot tab goa bes tic txt par sav bwh bpr bse len mat ask hh z1.2 hq4) (tb_V kw677 kw679 kv20 kw7 kw680) rfl rfl (by decide +kernel) ⟨Nat.le_of_ble_eq_true rfl, Nat.le_of_ble_eq_true rfl⟩ hK hP hD hS hA hE 0 rfl rfl [0, 1, 2, 3, 4, 5, 6, 7, 8] [] rfl rfl rfl 9 ⟨rfl, rfl⟩ (by decide +kernel) (by decide +kernel) rfl rfl hl.1 (Nat.le_of_ble_eq_true rfl) ⟨Nat.zero_le _, Nat.zero_le _⟩ dX5_running_17 (fun H locs hP hD hS => ?_)
        have hJ6 : ∀ (v2_6 : Int32) (t0_6 : Int32) (t1_6 : Int32) (H : Heap) (locs : List Loc) (ls : Array Slot), f_X5_running_j30 v2_6 t0_6 t1_6 = some o1 → va_P G vwCl (wM cI cJ aM row tot tab goa bes tic txt par sav bwh bpr bse len mat ask hh ++ ([] : va_W)) H → va_D A (wM cI cJ aM row tot tab goa bes tic txt par sav bwh bpr bse len mat ask hh ++ ([] : va_W)) → va_S A s.heap H locs → lv_has ls 3 [(0, .ref (aM 0)), (2, .int v2_6)] → W p l ev ({ frames := 3, cells := 0, slots := 0, locals := 64 } : Room) s m ([.ref (aM 0)] : List Value).toArray below meth c H locs 0 0 (MQ below (qI G (ty5 cI cJ cZ cO cA) A (wM cI cJ aM row tot tab goa bes tic txt par sav bwh bpr bse len mat ask hh ++ ([] : va_W)) res) ([.ref (aM 0)] : List Value).toArray s 0 0 A) (F0 m 30 ls [.int t0_6, .int t1_6]) := by
          intro v2_6 t0_6 t1_6 H locs ls h hP hD hS hl
          unfold f_X5_running_j30 at h
          refine lv_ior hx hb dX5_running_30 ?_
          refine lv_istore_n (lv' := [(1, .int (t1_6 ||| t0_6)), (0, .ref (aM 0)), (2, .int v2_6)]) hx hb dX5_running_31 rfl hl (by decide) rfl (fun ls hl => ?_)
          refine lv_iinc (v := (v2_6 + 1)) (lv' := [(2, .int (v2_6 + 1)), (1, .int (t1_6 ||| t0_6)), (0, .ref (aM 0))]) hx hb dX5_running_32 hl (k := 2) rfl rfl (by decide) rfl (fun ls hl => ?_)
          refine lv_goto (tgt := 4) hx hb dX5_running_35 (by decide) ?_
          rw [← Option.some.inj h] at h1
          exact ih1 ((t1_6 ||| t0_6), (v2_6 + 1)) _ _ _ (lp_b h1) hP hD hS (lv_sub hl [2, 1, 0] rfl)
        refine lv_if_eq (tgt := 29) hx hb dX5_running_20 (by decide) (fun c5 => ?_) (fun c5 => ?_)
        · replace h := (if_pos c5).symm.trans h
          refine lv_iconst (v := 0) hx hb dX5_running_29 (by decide) ?_
          exact hJ6 z1.2 0 z1.1 _ _ _ h hP hD hS (lv_sub hl [0, 2] rfl)
        · replace h := (if_neg c5).symm.trans h
          refine lv_iconst (v := 1) hx hb dX5_running_23 (by decide) ?_
          refine lv_iload_n hx hb dX5_running_24 rfl (lv_at hl 2 rfl) ?_
          refine lv_ishl hx hb dX5_running_25 ?_
          refine lv_goto (tgt := 30) hx hb dX5_running_26 (by decide) ?_
          exact hJ6 z1.2 (1 <<< (z1.2 &&& 31)) z1.1 _ _ _ h hP hD hS (lv_sub hl [0, 2] rfl)
  exact hL1 _ (0, 0) _ _ _ hq1 hP hD hS (lv_sub hl [2, 1, 0] rfl)

/-! X5_addThruster -/
def f_X5_addThruster_j64 (row : Nat → Int32) (tot : Nat → Int64) (sav : Int32) : Option (Int32 × (Nat → Int32) × (Nat → Int64) × Int32) :=
  some ((-2000000002), row, tot, sav)
def f_X5_addThruster (row : Nat → Int32) (tot : Nat → Int64) (sav : Int32) (p0 : Int32) (p1 : Int32) (p2 : Int32) (p3 : Int32) (p4 : Int32) (p5 : Int32) : Option (Int32 × (Nat → Int32) × (Nat → Int64) × Int32) :=
  (f_X5_isTank p4).bind (fun q1 => if q1 = 0 then (some ((-2000000001), row, tot, sav)) else ((f_X5_in p0 (-10) 10).bind (fun q3 => if q3 = 0 then (f_X5_addThruster_j64 row tot sav) else ((f_X5_in p1 (-10) 10).bind (fun q6 => if q6 = 0 then (f_X5_addThruster_j64 row tot sav) else ((f_X5_in p2 0 3).bind (fun q8 => if q8 = 0 then (f_X5_addThruster_j64 row tot sav) else ((f_X5_in p3 1 10).bind (fun q10 => if q10 = 0 then (f_X5_addThruster_j64 row tot sav) else ((f_X5_in p5 1 10).bind (fun q12 => if q12 = 0 then (f_X5_addThruster_j64 row tot sav) else (gd (ib 0 708) (if (row (0 : Int32).toNatClampNeg) = 8 then (some ((-2000000004), row, tot, sav)) else ((f_X5_saves row tot sav).bind (fun q16 => gd (ib 0 708) (gd (ib (1 + (7 * (q16.1 (0 : Int32).toNatClampNeg))) 708) (gd (ib ((1 + (7 * (q16.1 (0 : Int32).toNatClampNeg))) + 1) 708) (gd (ib ((1 + (7 * (q16.1 (0 : Int32).toNatClampNeg))) + 2) 708) (gd (ib ((1 + (7 * (q16.1 (0 : Int32).toNatClampNeg))) + 3) 708) (gd (ib ((1 + (7 * (q16.1 (0 : Int32).toNatClampNeg))) + 4) 708) (gd (ib ((1 + (7 * (q16.1 (0 : Int32).toNatClampNeg))) + 5) 708) (gd (ib ((1 + (7 * (q16.1 (0 : Int32).toNatClampNeg))) + 6) 708) (gd (ib 0 708) (gd (ib (108 + ((upd (upd (upd (upd (upd (upd (upd q16.1 (1 + (7 * (q16.1 (0 : Int32).toNatClampNeg))).toNatClampNeg p0) ((1 + (7 * (q16.1 (0 : Int32).toNatClampNeg))) + 1).toNatClampNeg p1) ((1 + (7 * (q16.1 (0 : Int32).toNatClampNeg))) + 2).toNatClampNeg p2) ((1 + (7 * (q16.1 (0 : Int32).toNatClampNeg))) + 3).toNatClampNeg p3) ((1 + (7 * (q16.1 (0 : Int32).toNatClampNeg))) + 4).toNatClampNeg p4) ((1 + (7 * (q16.1 (0 : Int32).toNatClampNeg))) + 5).toNatClampNeg p5) ((1 + (7 * (q16.1 (0 : Int32).toNatClampNeg))) + 6).toNatClampNeg 0) (0 : Int32).toNatClampNeg)) 708) (gd (ib 0 708) (gd (ib 0 708) (gd (ib 0 708) (some ((((upd (upd (upd (upd (upd (upd (upd (upd (upd q16.1 (1 + (7 * (q16.1 (0 : Int32).toNatClampNeg))).toNatClampNeg p0) ((1 + (7 * (q16.1 (0 : Int32).toNatClampNeg))) + 1).toNatClampNeg p1) ((1 + (7 * (q16.1 (0 : Int32).toNatClampNeg))) + 2).toNatClampNeg p2) ((1 + (7 * (q16.1 (0 : Int32).toNatClampNeg))) + 3).toNatClampNeg p3) ((1 + (7 * (q16.1 (0 : Int32).toNatClampNeg))) + 4).toNatClampNeg p4) ((1 + (7 * (q16.1 (0 : Int32).toNatClampNeg))) + 5).toNatClampNeg p5) ((1 + (7 * (q16.1 (0 : Int32).toNatClampNeg))) + 6).toNatClampNeg 0) (108 + ((upd (upd (upd (upd (upd (upd (upd q16.1 (1 + (7 * (q16.1 (0 : Int32).toNatClampNeg))).toNatClampNeg p0) ((1 + (7 * (q16.1 (0 : Int32).toNatClampNeg))) + 1).toNatClampNeg p1) ((1 + (7 * (q16.1 (0 : Int32).toNatClampNeg))) + 2).toNatClampNeg p2) ((1 + (7 * (q16.1 (0 : Int32).toNatClampNeg))) + 3).toNatClampNeg p3) ((1 + (7 * (q16.1 (0 : Int32).toNatClampNeg))) + 4).toNatClampNeg p4) ((1 + (7 * (q16.1 (0 : Int32).toNatClampNeg))) + 5).toNatClampNeg p5) ((1 + (7 * (q16.1 (0 : Int32).toNatClampNeg))) + 6).toNatClampNeg 0) (0 : Int32).toNatClampNeg)).toNatClampNeg 0) (0 : Int32).toNatClampNeg (((upd (upd (upd (upd (upd (upd (upd (upd q16.1 (1 + (7 * (q16.1 (0 : Int32).toNatClampNeg))).toNatClampNeg p0) ((1 + (7 * (q16.1 (0 : Int32).toNatClampNeg))) + 1).toNatClampNeg p1) ((1 + (7 * (q16.1 (0 : Int32).toNatClampNeg))) + 2).toNatClampNeg p2) ((1 + (7 * (q16.1 (0 : Int32).toNatClampNeg))) + 3).toNatClampNeg p3) ((1 + (7 * (q16.1 (0 : Int32).toNatClampNeg))) + 4).toNatClampNeg p4) ((1 + (7 * (q16.1 (0 : Int32).toNatClampNeg))) + 5).toNatClampNeg p5) ((1 + (7 * (q16.1 (0 : Int32).toNatClampNeg))) + 6).toNatClampNeg 0) (108 + ((upd (upd (upd (upd (upd (upd (upd q16.1 (1 + (7 * (q16.1 (0 : Int32).toNatClampNeg))).toNatClampNeg p0) ((1 + (7 * (q16.1 (0 : Int32).toNatClampNeg))) + 1).toNatClampNeg p1) ((1 + (7 * (q16.1 (0 : Int32).toNatClampNeg))) + 2).toNatClampNeg p2) ((1 + (7 * (q16.1 (0 : Int32).toNatClampNeg))) + 3).toNatClampNeg p3) ((1 + (7 * (q16.1 (0 : Int32).toNatClampNeg))) + 4).toNatClampNeg p4) ((1 + (7 * (q16.1 (0 : Int32).toNatClampNeg))) + 5).toNatClampNeg p5) ((1 + (7 * (q16.1 (0 : Int32).toNatClampNeg))) + 6).toNatClampNeg 0) (0 : Int32).toNatClampNeg)).toNatClampNeg 0) (0 : Int32).toNatClampNeg) + 1)) (0 : Int32).toNatClampNeg) - 1), (upd (upd (upd (upd (upd (upd (upd (upd (upd q16.1 (1 + (7 * (q16.1 (0 : Int32).toNatClampNeg))).toNatClampNeg p0) ((1 + (7 * (q16.1 (0 : Int32).toNatClampNeg))) + 1).toNatClampNeg p1) ((1 + (7 * (q16.1 (0 : Int32).toNatClampNeg))) + 2).toNatClampNeg p2) ((1 + (7 * (q16.1 (0 : Int32).toNatClampNeg))) + 3).toNatClampNeg p3) ((1 + (7 * (q16.1 (0 : Int32).toNatClampNeg))) + 4).toNatClampNeg p4) ((1 + (7 * (q16.1 (0 : Int32).toNatClampNeg))) + 5).toNatClampNeg p5) ((1 + (7 * (q16.1 (0 : Int32).toNatClampNeg))) + 6).toNatClampNeg 0) (108 + ((upd (upd (upd (upd (upd (upd (upd q16.1 (1 + (7 * (q16.1 (0 : Int32).toNatClampNeg))).toNatClampNeg p0) ((1 + (7 * (q16.1 (0 : Int32).toNatClampNeg))) + 1).toNatClampNeg p1) ((1 + (7 * (q16.1 (0 : Int32).toNatClampNeg))) + 2).toNatClampNeg p2) ((1 + (7 * (q16.1 (0 : Int32).toNatClampNeg))) + 3).toNatClampNeg p3) ((1 + (7 * (q16.1 (0 : Int32).toNatClampNeg))) + 4).toNatClampNeg p4) ((1 + (7 * (q16.1 (0 : Int32).toNatClampNeg))) + 5).toNatClampNeg p5) ((1 + (7 * (q16.1 (0 : Int32).toNatClampNeg))) + 6).toNatClampNeg 0) (0 : Int32).toNatClampNeg)).toNatClampNeg 0) (0 : Int32).toNatClampNeg (((upd (upd (upd (upd (upd (upd (upd (upd q16.1 (1 + (7 * (q16.1 (0 : Int32).toNatClampNeg))).toNatClampNeg p0) ((1 + (7 * (q16.1 (0 : Int32).toNatClampNeg))) + 1).toNatClampNeg p1) ((1 + (7 * (q16.1 (0 : Int32).toNatClampNeg))) + 2).toNatClampNeg p2) ((1 + (7 * (q16.1 (0 : Int32).toNatClampNeg))) + 3).toNatClampNeg p3) ((1 + (7 * (q16.1 (0 : Int32).toNatClampNeg))) + 4).toNatClampNeg p4) ((1 + (7 * (q16.1 (0 : Int32).toNatClampNeg))) + 5).toNatClampNeg p5) ((1 + (7 * (q16.1 (0 : Int32).toNatClampNeg))) + 6).toNatClampNeg 0) (108 + ((upd (upd (upd (upd (upd (upd (upd q16.1 (1 + (7 * (q16.1 (0 : Int32).toNatClampNeg))).toNatClampNeg p0) ((1 + (7 * (q16.1 (0 : Int32).toNatClampNeg))) + 1).toNatClampNeg p1) ((1 + (7 * (q16.1 (0 : Int32).toNatClampNeg))) + 2).toNatClampNeg p2) ((1 + (7 * (q16.1 (0 : Int32).toNatClampNeg))) + 3).toNatClampNeg p3) ((1 + (7 * (q16.1 (0 : Int32).toNatClampNeg))) + 4).toNatClampNeg p4) ((1 + (7 * (q16.1 (0 : Int32).toNatClampNeg))) + 5).toNatClampNeg p5) ((1 + (7 * (q16.1 (0 : Int32).toNatClampNeg))) + 6).toNatClampNeg 0) (0 : Int32).toNatClampNeg)).toNatClampNeg 0) (0 : Int32).toNatClampNeg) + 1)), q16.2.1, q16.2.2)))))))))))))))))))))))))))))

set_option maxHeartbeats 4000000 in
set_option maxRecDepth 100000 in
theorem c_X5_addThruster (l : Launch) (G : va_G) (cI cJ cZ cO cA : ClassId) (e : Nat × Nat) (aM : Nat → Nat) (sz : Nat) (row : Nat → Int32) (tot : Nat → Int64) (tab : Nat → Int64) (goa : Nat → Int64) (bes : Nat → Int64) (tic : Nat → Int64) (txt : Nat → Int32) (par : Nat → Int32) (sav : Int32) (bwh : Int64) (bpr : Int64) (bse : Int32) (len : Int32) (mat : Int32) (ask : Int32) (hh : Int64) (p0 : Int32) (p1 : Int32) (p2 : Int32) (p3 : Int32) (p4 : Int32) (p5 : Int32) {res : Int32 × (Nat → Int32) × (Nat → Int64) × Int32} (hf : f_X5_addThruster row tot sav p0 p1 p2 p3 p4 p5 = some res) : MetI l yX5_addThruster cX5_addThruster 8 .int ({ frames := 2, cells := 0, slots := 0, locals := 44 } : Room) [.ref (aM 0), .int p0, .int p1, .int p2, .int p3, .int p4, .int p5] G (ty5 cI cJ cZ cO cA) e (wM cI cJ aM row tot tab goa bes tic txt par sav bwh bpr bse len mat ask hh ++ ([] : va_W)) (wM cI cJ aM res.2.1 res.2.2.1 tab goa bes tic txt par res.2.2.2 bwh bpr bse len mat ask hh ++ ([] : va_W)) sz res.1 := by
  refine g_body (QQ := fun A => (qI G (ty5 cI cJ cZ cO cA) A (wM cI cJ aM res.2.1 res.2.2.1 tab goa bes tic txt par res.2.2.2 bwh bpr bse len mat ask hh ++ ([] : va_W)) res.1)) (own := RX5) (by decide) rfl (Nat.le_of_ble_eq_true rfl) ?_
  intro p ev s m below meth c A ls hx hb hr hml hown hts hlk hA hP hD hS hK hE hl
  have hl : lv_has ls 8 [(0, .ref (aM 0)), (1, .int p0), (2, .int p1), (3, .int p2), (4, .int p3), (5, .int p4), (6, .int p5)] := hl
  show W p l ev ({ frames := 2, cells := 0, slots := 0, locals := 44 } : Room) s m ([.ref (aM 0), .int p0, .int p1, .int p2, .int p3, .int p4, .int p5] : List Value).toArray below meth c s.heap [] 0 0 (MQ below (qI G (ty5 cI cJ cZ cO cA) A (wM cI cJ aM res.2.1 res.2.2.1 tab goa bes tic txt par res.2.2.2 bwh bpr bse len mat ask hh ++ ([] : va_W)) res.1) ([.ref (aM 0), .int p0, .int p1, .int p2, .int p3, .int p4, .int p5] : List Value).toArray s 0 0 A) (F0 m 0 ls [])
  have h := hf
  unfold f_X5_addThruster at h
  refine lv_iload hx hb dX5_addThruster_0 (lv_at hl 5 rfl) ?_
  obtain ⟨q1, hq1, h⟩ := bd_s h
  refine kSi (n := 1) (As := [.int p4]) (rest := []) hx hb hml hown hts (c_X5_isTank l G cI cJ cZ cO cA e _ p4 hq1) (tb_S kw632 kw633 kw7 kw634) rfl rfl (by decide +kernel) ⟨Nat.le_of_ble_eq_true rfl, Nat.le_of_ble_eq_true rfl⟩ hK hP hD hS hA hE rfl rfl hl.1 (Nat.le_of_ble_eq_true rfl) ⟨Nat.zero_le _, Nat.zero_le _⟩ dX5_addThruster_2 (fun H locs hP hD hS => ?_)
  refine lv_if_ne (tgt := 11) hx hb dX5_addThruster_5 (by decide) (fun c2 => ?_) (fun c2 => ?_)
  · replace h := (if_neg c2).symm.trans h
    refine lv_iload_n hx hb dX5_addThruster_11 rfl (lv_at hl 1 rfl) ?_
    refine lv_bipush (v := (-10)) hx hb dX5_addThruster_12 (by decide) ?_
    refine lv_bipush (v := 10) hx hb dX5_addThruster_14 (by decide) ?_
    obtain ⟨q3, hq3, h⟩ := bd_s h
    refine kSi (n := 3) (As := [.int p0, .int (-10), .int 10]) (rest := []) hx hb hml hown hts (c_X5_in l G cI cJ cZ cO cA e _ p0 (-10) 10 hq3) (tb_S kw635 kw636 kw7 kw637) rfl rfl (by decide +kernel) ⟨Nat.le_of_ble_eq_true rfl, Nat.le_of_ble_eq_true rfl⟩ hK hP hD hS hA hE rfl rfl hl.1 (Nat.le_of_ble_eq_true rfl) ⟨Nat.zero_le _, Nat.zero_le _⟩ dX5_addThruster_16 (fun H locs hP hD hS => ?_)
    have hJ5 : ∀ (row_5 : Nat → Int32) (tot_5 : Nat → Int64) (sav_5 : Int32) (H : Heap) (locs : List Loc) (ls : Array Slot), f_X5_addThruster_j64 row_5 tot_5 sav_5 = some res → va_P G vwCl (wM cI cJ aM row_5 tot_5 tab goa bes tic txt par sav_5 bwh bpr bse len mat ask hh ++ ([] : va_W)) H → va_D A (wM cI cJ aM row_5 tot_5 tab goa bes tic txt par sav_5 bwh bpr bse len mat ask hh ++ ([] : va_W)) → va_S A s.heap H locs → lv_has ls 8 [] → W p l ev ({ frames := 2, cells := 0, slots := 0, locals := 44 } : Room) s m ([.ref (aM 0), .int p0, .int p1, .int p2, .int p3, .int p4, .int p5] : List Value).toArray below meth c H locs 0 0 (MQ below (qI G (ty5 cI cJ cZ cO cA) A (wM cI cJ aM res.2.1 res.2.2.1 tab goa bes tic txt par res.2.2.2 bwh bpr bse len mat ask hh ++ ([] : va_W)) res.1) ([.ref (aM 0), .int p0, .int p1, .int p2, .int p3, .int p4, .int p5] : List Value).toArray s 0 0 A) (F0 m 64 ls []) := by
      intro row_5 tot_5 sav_5 H locs ls h hP hD hS hl
      unfold f_X5_addThruster_j64 at h
      refine lv_ldc (v := (-2000000002)) hx hb hown (hts _ kw639) dX5_addThruster_64 ?_
      rw [← Option.some.inj h]
      exact kri hx hb hr hlk rfl rfl hP hD hS hK dX5_addThruster_66
    refine lv_if_eq (tgt := 64) hx hb dX5_addThruster_19 (by decide) (fun c4 => ?_) (fun c4 => ?_)
    · replace h := (if_pos c4).symm.trans h
      exact hJ5 row tot sav _ _ _ h hP hD hS (lv_sub hl [] rfl)
    · replace h := (if_neg c4).symm.trans h
      refine lv_iload_n hx hb dX5_addThruster_22 rfl (lv_at hl 2 rfl) ?_
      refine lv_bipush (v := (-10)) hx hb dX5_addThruster_23 (by decide) ?_
      refine lv_bipush (v := 10) hx hb dX5_addThruster_25 (by decide) ?_
      obtain ⟨q6, hq6, h⟩ := bd_s h
      refine kSi (n := 3) (As := [.int p1, .int (-10), .int 10]) (rest := []) hx hb hml hown hts (c_X5_in l G cI cJ cZ cO cA e _ p1 (-10) 10 hq6) (tb_S kw635 kw636 kw7 kw637) rfl rfl (by decide +kernel) ⟨Nat.le_of_ble_eq_true rfl, Nat.le_of_ble_eq_true rfl⟩ hK hP hD hS hA hE rfl rfl hl.1 (Nat.le_of_ble_eq_true rfl) ⟨Nat.zero_le _, Nat.zero_le _⟩ dX5_addThruster_27 (fun H locs hP hD hS => ?_)
      refine lv_if_eq (tgt := 64) hx hb dX5_addThruster_30 (by decide) (fun c7 => ?_) (fun c7 => ?_)
      · replace h := (if_pos c7).symm.trans h
        exact hJ5 row tot sav _ _ _ h hP hD hS (lv_sub hl [] rfl)
      · replace h := (if_neg c7).symm.trans h
        refine lv_iload_n hx hb dX5_addThruster_33 rfl (lv_at hl 3 rfl) ?_
        refine lv_iconst (v := 0) hx hb dX5_addThruster_34 (by decide) ?_
        refine lv_iconst (v := 3) hx hb dX5_addThruster_35 (by decide) ?_
        obtain ⟨q8, hq8, h⟩ := bd_s h
        refine kSi (n := 3) (As := [.int p2, .int 0, .int 3]) (rest := []) hx hb hml hown hts (c_X5_in l G cI cJ cZ cO cA e _ p2 0 3 hq8) (tb_S kw635 kw636 kw7 kw637) rfl rfl (by decide +kernel) ⟨Nat.le_of_ble_eq_true rfl, Nat.le_of_ble_eq_true rfl⟩ hK hP hD hS hA hE rfl rfl hl.1 (Nat.le_of_ble_eq_true rfl) ⟨Nat.zero_le _, Nat.zero_le _⟩ dX5_addThruster_36 (fun H locs hP hD hS => ?_)
        refine lv_if_eq (tgt := 64) hx hb dX5_addThruster_39 (by decide) (fun c9 => ?_) (fun c9 => ?_)
        · replace h := (if_pos c9).symm.trans h
          exact hJ5 row tot sav _ _ _ h hP hD hS (lv_sub hl [] rfl)
        · replace h := (if_neg c9).symm.trans h
          refine lv_iload hx hb dX5_addThruster_42 (lv_at hl 4 rfl) ?_
          refine lv_iconst (v := 1) hx hb dX5_addThruster_44 (by decide) ?_
          refine lv_bipush (v := 10) hx hb dX5_addThruster_45 (by decide) ?_
          obtain ⟨q10, hq10, h⟩ := bd_s h
          refine kSi (n := 3) (As := [.int p3, .int 1, .int 10]) (rest := []) hx hb hml hown hts (c_X5_in l G cI cJ cZ cO cA e _ p3 1 10 hq10) (tb_S kw635 kw636 kw7 kw637) rfl rfl (by decide +kernel) ⟨Nat.le_of_ble_eq_true rfl, Nat.le_of_ble_eq_true rfl⟩ hK hP hD hS hA hE rfl rfl hl.1 (Nat.le_of_ble_eq_true rfl) ⟨Nat.zero_le _, Nat.zero_le _⟩ dX5_addThruster_47 (fun H locs hP hD hS => ?_)
          refine lv_if_eq (tgt := 64) hx hb dX5_addThruster_50 (by decide) (fun c11 => ?_) (fun c11 => ?_)
          · replace h := (if_pos c11).symm.trans h
            exact hJ5 row tot sav _ _ _ h hP hD hS (lv_sub hl [] rfl)
          · replace h := (if_neg c11).symm.trans h
            refine lv_iload hx hb dX5_addThruster_53 (lv_at hl 6 rfl) ?_
            refine lv_iconst (v := 1) hx hb dX5_addThruster_55 (by decide) ?_
            refine lv_bipush (v := 10) hx hb dX5_addThruster_56 (by decide) ?_
            obtain ⟨q12, hq12, h⟩ := bd_s h
            refine kSi (n := 3) (As := [.int p5, .int 1, .int 10]) (rest := []) hx hb hml hown hts (c_X5_in l G cI cJ cZ cO cA e _ p5 1 10 hq12) (tb_S kw635 kw636 kw7 kw637) rfl rfl (by decide +kernel) ⟨Nat.le_of_ble_eq_true rfl, Nat.le_of_ble_eq_true rfl⟩ hK hP hD hS hA hE rfl rfl hl.1 (Nat.le_of_ble_eq_true rfl) ⟨Nat.zero_le _, Nat.zero_le _⟩ dX5_addThruster_58 (fun H locs hP hD hS => ?_)
            refine lv_if_ne (tgt := 67) hx hb dX5_addThruster_61 (by decide) (fun c13 => ?_) (fun c13 => ?_)
            · replace h := (if_neg c13).symm.trans h
              refine lv_aload_n hx hb dX5_addThruster_67 rfl (lv_at hl 0 rfl) ?_
              refine va_get (D := G) (ci := 5) (v := .ref (aM 1)) (C := RX5) (T := TX5) (N := 16) hx hb hts uX5 hown hK hP 0 rfl rfl 0 (by decide) (hts _ kw579) (fun _ h9 => h9) rfl dX5_addThruster_68 ?_
              refine lv_iconst (v := 0) hx hb dX5_addThruster_71 (by decide) ?_
              obtain ⟨g14, h⟩ := gd_s h
              refine va_iald hx hb hK hP 1 0 rfl rfl (ib_in g14) dX5_addThruster_72 ?_
              refine lv_bipush (v := 8) hx hb dX5_addThruster_73 (by decide) ?_
              refine lv_icmp_ne (tgt := 81) hx hb dX5_addThruster_75 (by decide) (fun c15 => ?_) (fun c15 => ?_)
              · replace h := (if_neg c15).symm.trans h
                refine lv_aload_n hx hb dX5_addThruster_81 rfl (lv_at hl 0 rfl) ?_
                obtain ⟨q16, hq16, h⟩ := bd_s h
                refine kVv (n := 0) (C := RX5) (ws' := wM cI cJ aM q16.1 q16.2.1 tab goa bes tic txt par q16.2.2 bwh bpr bse len mat ask hh ++ ([] : va_W)) (As := []) (rest := []) hx hb hml hown hts (c_X5_saves l G cI cJ cZ cO cA e aM _ row tot tab goa bes tic txt par sav bwh bpr bse len mat ask hh hq16) (tb_V kw641 kw643 kv14 kw7 kw644) rfl rfl (by decide +kernel) ⟨Nat.le_of_ble_eq_true rfl, Nat.le_of_ble_eq_true rfl⟩ hK hP hD hS hA hE 0 rfl rfl [0, 1, 2, 3, 4, 5, 6, 7, 8] [] rfl rfl rfl 9 ⟨rfl, rfl⟩ (by decide +kernel) (by decide +kernel) rfl rfl hl.1 (Nat.le_of_ble_eq_true rfl) ⟨Nat.zero_le _, Nat.zero_le _⟩ dX5_addThruster_82 (fun H locs hP hD hS => ?_)
                refine lv_iconst (v := 1) hx hb dX5_addThruster_85 (by decide) ?_
                refine lv_bipush (v := 7) hx hb dX5_addThruster_86 (by decide) ?_
                refine lv_aload_n hx hb dX5_addThruster_88 rfl (lv_at hl 0 rfl) ?_
                refine va_get (D := G) (ci := 5) (v := .ref (aM 1)) (C := RX5) (T := TX5) (N := 16) hx hb hts uX5 hown hK hP 0 rfl rfl 0 (by decide) (hts _ kw579) (fun _ h9 => h9) rfl dX5_addThruster_89 ?_
                refine lv_iconst (v := 0) hx hb dX5_addThruster_92 (by decide) ?_
                obtain ⟨g17, h⟩ := gd_s h
                refine va_iald hx hb hK hP 1 0 rfl rfl (ib_in g17) dX5_addThruster_93 ?_
                refine lv_imul hx hb dX5_addThruster_94 ?_
                refine lv_iadd hx hb dX5_addThruster_95 ?_
                refine lv_istore (lv' := [(7, .int (1 + (7 * (q16.1 (0 : Int32).toNatClampNeg)))), (0, .ref (aM 0)), (1, .int p0), (2, .int p1), (3, .int p2), (4, .int p3), (5, .int p4), (6, .int p5)]) hx hb dX5_addThruster_96 hl (by decide) rfl (fun ls hl => ?_)
                refine lv_aload_n hx hb dX5_addThruster_98 rfl (lv_at hl 1 rfl) ?_
                refine va_get (D := G) (ci := 5) (v := .ref (aM 1)) (C := RX5) (T := TX5) (N := 16) hx hb hts uX5 hown hK hP 0 rfl rfl 0 (by decide) (hts _ kw579) (fun _ h9 => h9) rfl dX5_addThruster_99 ?_
                refine lv_iload hx hb dX5_addThruster_102 (lv_at hl 0 rfl) ?_
                refine lv_iload_n hx hb dX5_addThruster_104 rfl (lv_at hl 2 rfl) ?_
                obtain ⟨g18, h⟩ := gd_s h
                refine va_iast hx hb hK hP hD hS 1 0 rfl rfl (ib_in g18) dX5_addThruster_105 (fun H locs hP hD hS => ?_)
                have hP : va_P G vwCl (wM cI cJ aM (upd q16.1 (1 + (7 * (q16.1 (0 : Int32).toNatClampNeg))).toNatClampNeg p0) q16.2.1 tab goa bes tic txt par q16.2.2 bwh bpr bse len mat ask hh ++ ([] : va_W)) H := hP
                have hD : va_D A (wM cI cJ aM (upd q16.1 (1 + (7 * (q16.1 (0 : Int32).toNatClampNeg))).toNatClampNeg p0) q16.2.1 tab goa bes tic txt par q16.2.2 bwh bpr bse len mat ask hh ++ ([] : va_W)) := hD
                refine lv_aload_n hx hb dX5_addThruster_106 rfl (lv_at hl 1 rfl) ?_
                refine va_get (D := G) (ci := 5) (v := .ref (aM 1)) (C := RX5) (T := TX5) (N := 16) hx hb hts uX5 hown hK hP 0 rfl rfl 0 (by decide) (hts _ kw579) (fun _ h9 => h9) rfl dX5_addThruster_107 ?_
                refine lv_iload hx hb dX5_addThruster_110 (lv_at hl 0 rfl) ?_
                refine lv_iconst (v := 1) hx hb dX5_addThruster_112 (by decide) ?_
                refine lv_iadd hx hb dX5_addThruster_113 ?_
                refine lv_iload_n hx hb dX5_addThruster_114 rfl (lv_at hl 3 rfl) ?_
                obtain ⟨g19, h⟩ := gd_s h
                refine va_iast hx hb hK hP hD hS 1 0 rfl rfl (ib_in g19) dX5_addThruster_115 (fun H locs hP hD hS => ?_)
                have hP : va_P G vwCl (wM cI cJ aM (upd (upd q16.1 (1 + (7 * (q16.1 (0 : Int32).toNatClampNeg))).toNatClampNeg p0) ((1 + (7 * (q16.1 (0 : Int32).toNatClampNeg))) + 1).toNatClampNeg p1) q16.2.1 tab goa bes tic txt par q16.2.2 bwh bpr bse len mat ask hh ++ ([] : va_W)) H := hP
                have hD : va_D A (wM cI cJ aM (upd (upd q16.1 (1 + (7 * (q16.1 (0 : Int32).toNatClampNeg))).toNatClampNeg p0) ((1 + (7 * (q16.1 (0 : Int32).toNatClampNeg))) + 1).toNatClampNeg p1) q16.2.1 tab goa bes tic txt par q16.2.2 bwh bpr bse len mat ask hh ++ ([] : va_W)) := hD
                refine lv_aload_n hx hb dX5_addThruster_116 rfl (lv_at hl 1 rfl) ?_
                refine va_get (D := G) (ci := 5) (v := .ref (aM 1)) (C := RX5) (T := TX5) (N := 16) hx hb hts uX5 hown hK hP 0 rfl rfl 0 (by decide) (hts _ kw579) (fun _ h9 => h9) rfl dX5_addThruster_117 ?_
                refine lv_iload hx hb dX5_addThruster_120 (lv_at hl 0 rfl) ?_
                refine lv_iconst (v := 2) hx hb dX5_addThruster_122 (by decide) ?_
                refine lv_iadd hx hb dX5_addThruster_123 ?_
                refine lv_iload_n hx hb dX5_addThruster_124 rfl (lv_at hl 4 rfl) ?_
                obtain ⟨g20, h⟩ := gd_s h
                refine va_iast hx hb hK hP hD hS 1 0 rfl rfl (ib_in g20) dX5_addThruster_125 (fun H locs hP hD hS => ?_)
                have hP : va_P G vwCl (wM cI cJ aM (upd (upd (upd q16.1 (1 + (7 * (q16.1 (0 : Int32).toNatClampNeg))).toNatClampNeg p0) ((1 + (7 * (q16.1 (0 : Int32).toNatClampNeg))) + 1).toNatClampNeg p1) ((1 + (7 * (q16.1 (0 : Int32).toNatClampNeg))) + 2).toNatClampNeg p2) q16.2.1 tab goa bes tic txt par q16.2.2 bwh bpr bse len mat ask hh ++ ([] : va_W)) H := hP
                have hD : va_D A (wM cI cJ aM (upd (upd (upd q16.1 (1 + (7 * (q16.1 (0 : Int32).toNatClampNeg))).toNatClampNeg p0) ((1 + (7 * (q16.1 (0 : Int32).toNatClampNeg))) + 1).toNatClampNeg p1) ((1 + (7 * (q16.1 (0 : Int32).toNatClampNeg))) + 2).toNatClampNeg p2) q16.2.1 tab goa bes tic txt par q16.2.2 bwh bpr bse len mat ask hh ++ ([] : va_W)) := hD
                refine lv_aload_n hx hb dX5_addThruster_126 rfl (lv_at hl 1 rfl) ?_
                refine va_get (D := G) (ci := 5) (v := .ref (aM 1)) (C := RX5) (T := TX5) (N := 16) hx hb hts uX5 hown hK hP 0 rfl rfl 0 (by decide) (hts _ kw579) (fun _ h9 => h9) rfl dX5_addThruster_127 ?_
                refine lv_iload hx hb dX5_addThruster_130 (lv_at hl 0 rfl) ?_
                refine lv_iconst (v := 3) hx hb dX5_addThruster_132 (by decide) ?_
                refine lv_iadd hx hb dX5_addThruster_133 ?_
                refine lv_iload hx hb dX5_addThruster_134 (lv_at hl 5 rfl) ?_
                obtain ⟨g21, h⟩ := gd_s h
                refine va_iast hx hb hK hP hD hS 1 0 rfl rfl (ib_in g21) dX5_addThruster_136 (fun H locs hP hD hS => ?_)
                have hP : va_P G vwCl (wM cI cJ aM (upd (upd (upd (upd q16.1 (1 + (7 * (q16.1 (0 : Int32).toNatClampNeg))).toNatClampNeg p0) ((1 + (7 * (q16.1 (0 : Int32).toNatClampNeg))) + 1).toNatClampNeg p1) ((1 + (7 * (q16.1 (0 : Int32).toNatClampNeg))) + 2).toNatClampNeg p2) ((1 + (7 * (q16.1 (0 : Int32).toNatClampNeg))) + 3).toNatClampNeg p3) q16.2.1 tab goa bes tic txt par q16.2.2 bwh bpr bse len mat ask hh ++ ([] : va_W)) H := hP
                have hD : va_D A (wM cI cJ aM (upd (upd (upd (upd q16.1 (1 + (7 * (q16.1 (0 : Int32).toNatClampNeg))).toNatClampNeg p0) ((1 + (7 * (q16.1 (0 : Int32).toNatClampNeg))) + 1).toNatClampNeg p1) ((1 + (7 * (q16.1 (0 : Int32).toNatClampNeg))) + 2).toNatClampNeg p2) ((1 + (7 * (q16.1 (0 : Int32).toNatClampNeg))) + 3).toNatClampNeg p3) q16.2.1 tab goa bes tic txt par q16.2.2 bwh bpr bse len mat ask hh ++ ([] : va_W)) := hD
                refine lv_aload_n hx hb dX5_addThruster_137 rfl (lv_at hl 1 rfl) ?_
                refine va_get (D := G) (ci := 5) (v := .ref (aM 1)) (C := RX5) (T := TX5) (N := 16) hx hb hts uX5 hown hK hP 0 rfl rfl 0 (by decide) (hts _ kw579) (fun _ h9 => h9) rfl dX5_addThruster_138 ?_
                refine lv_iload hx hb dX5_addThruster_141 (lv_at hl 0 rfl) ?_
                refine lv_iconst (v := 4) hx hb dX5_addThruster_143 (by decide) ?_
                refine lv_iadd hx hb dX5_addThruster_144 ?_
                refine lv_iload hx hb dX5_addThruster_145 (lv_at hl 6 rfl) ?_
                obtain ⟨g22, h⟩ := gd_s h
                refine va_iast hx hb hK hP hD hS 1 0 rfl rfl (ib_in g22) dX5_addThruster_147 (fun H locs hP hD hS => ?_)
                have hP : va_P G vwCl (wM cI cJ aM (upd (upd (upd (upd (upd q16.1 (1 + (7 * (q16.1 (0 : Int32).toNatClampNeg))).toNatClampNeg p0) ((1 + (7 * (q16.1 (0 : Int32).toNatClampNeg))) + 1).toNatClampNeg p1) ((1 + (7 * (q16.1 (0 : Int32).toNatClampNeg))) + 2).toNatClampNeg p2) ((1 + (7 * (q16.1 (0 : Int32).toNatClampNeg))) + 3).toNatClampNeg p3) ((1 + (7 * (q16.1 (0 : Int32).toNatClampNeg))) + 4).toNatClampNeg p4) q16.2.1 tab goa bes tic txt par q16.2.2 bwh bpr bse len mat ask hh ++ ([] : va_W)) H := hP
                have hD : va_D A (wM cI cJ aM (upd (upd (upd (upd (upd q16.1 (1 + (7 * (q16.1 (0 : Int32).toNatClampNeg))).toNatClampNeg p0) ((1 + (7 * (q16.1 (0 : Int32).toNatClampNeg))) + 1).toNatClampNeg p1) ((1 + (7 * (q16.1 (0 : Int32).toNatClampNeg))) + 2).toNatClampNeg p2) ((1 + (7 * (q16.1 (0 : Int32).toNatClampNeg))) + 3).toNatClampNeg p3) ((1 + (7 * (q16.1 (0 : Int32).toNatClampNeg))) + 4).toNatClampNeg p4) q16.2.1 tab goa bes tic txt par q16.2.2 bwh bpr bse len mat ask hh ++ ([] : va_W)) := hD
                refine lv_aload_n hx hb dX5_addThruster_148 rfl (lv_at hl 1 rfl) ?_
                refine va_get (D := G) (ci := 5) (v := .ref (aM 1)) (C := RX5) (T := TX5) (N := 16) hx hb hts uX5 hown hK hP 0 rfl rfl 0 (by decide) (hts _ kw579) (fun _ h9 => h9) rfl dX5_addThruster_149 ?_
                refine lv_iload hx hb dX5_addThruster_152 (lv_at hl 0 rfl) ?_
                refine lv_iconst (v := 5) hx hb dX5_addThruster_154 (by decide) ?_
                refine lv_iadd hx hb dX5_addThruster_155 ?_
                refine lv_iload hx hb dX5_addThruster_156 (lv_at hl 7 rfl) ?_
                obtain ⟨g23, h⟩ := gd_s h
                refine va_iast hx hb hK hP hD hS 1 0 rfl rfl (ib_in g23) dX5_addThruster_158 (fun H locs hP hD hS => ?_)
                have hP : va_P G vwCl (wM cI cJ aM (upd (upd (upd (upd (upd (upd q16.1 (1 + (7 * (q16.1 (0 : Int32).toNatClampNeg))).toNatClampNeg p0) ((1 + (7 * (q16.1 (0 : Int32).toNatClampNeg))) + 1).toNatClampNeg p1) ((1 + (7 * (q16.1 (0 : Int32).toNatClampNeg))) + 2).toNatClampNeg p2) ((1 + (7 * (q16.1 (0 : Int32).toNatClampNeg))) + 3).toNatClampNeg p3) ((1 + (7 * (q16.1 (0 : Int32).toNatClampNeg))) + 4).toNatClampNeg p4) ((1 + (7 * (q16.1 (0 : Int32).toNatClampNeg))) + 5).toNatClampNeg p5) q16.2.1 tab goa bes tic txt par q16.2.2 bwh bpr bse len mat ask hh ++ ([] : va_W)) H := hP
                have hD : va_D A (wM cI cJ aM (upd (upd (upd (upd (upd (upd q16.1 (1 + (7 * (q16.1 (0 : Int32).toNatClampNeg))).toNatClampNeg p0) ((1 + (7 * (q16.1 (0 : Int32).toNatClampNeg))) + 1).toNatClampNeg p1) ((1 + (7 * (q16.1 (0 : Int32).toNatClampNeg))) + 2).toNatClampNeg p2) ((1 + (7 * (q16.1 (0 : Int32).toNatClampNeg))) + 3).toNatClampNeg p3) ((1 + (7 * (q16.1 (0 : Int32).toNatClampNeg))) + 4).toNatClampNeg p4) ((1 + (7 * (q16.1 (0 : Int32).toNatClampNeg))) + 5).toNatClampNeg p5) q16.2.1 tab goa bes tic txt par q16.2.2 bwh bpr bse len mat ask hh ++ ([] : va_W)) := hD
                refine lv_aload_n hx hb dX5_addThruster_159 rfl (lv_at hl 1 rfl) ?_
                refine va_get (D := G) (ci := 5) (v := .ref (aM 1)) (C := RX5) (T := TX5) (N := 16) hx hb hts uX5 hown hK hP 0 rfl rfl 0 (by decide) (hts _ kw579) (fun _ h9 => h9) rfl dX5_addThruster_160 ?_
                refine lv_iload hx hb dX5_addThruster_163 (lv_at hl 0 rfl) ?_
                refine lv_bipush (v := 6) hx hb dX5_addThruster_165 (by decide) ?_
                refine lv_iadd hx hb dX5_addThruster_167 ?_
                refine lv_iconst (v := 0) hx hb dX5_addThruster_168 (by decide) ?_
                obtain ⟨g24, h⟩ := gd_s h
                refine va_iast hx hb hK hP hD hS 1 0 rfl rfl (ib_in g24) dX5_addThruster_169 (fun H locs hP hD hS => ?_)
                have hP : va_P G vwCl (wM cI cJ aM (upd (upd (upd (upd (upd (upd (upd q16.1 (1 + (7 * (q16.1 (0 : Int32).toNatClampNeg))).toNatClampNeg p0) ((1 + (7 * (q16.1 (0 : Int32).toNatClampNeg))) + 1).toNatClampNeg p1) ((1 + (7 * (q16.1 (0 : Int32).toNatClampNeg))) + 2).toNatClampNeg p2) ((1 + (7 * (q16.1 (0 : Int32).toNatClampNeg))) + 3).toNatClampNeg p3) ((1 + (7 * (q16.1 (0 : Int32).toNatClampNeg))) + 4).toNatClampNeg p4) ((1 + (7 * (q16.1 (0 : Int32).toNatClampNeg))) + 5).toNatClampNeg p5) ((1 + (7 * (q16.1 (0 : Int32).toNatClampNeg))) + 6).toNatClampNeg 0) q16.2.1 tab goa bes tic txt par q16.2.2 bwh bpr bse len mat ask hh ++ ([] : va_W)) H := hP
                have hD : va_D A (wM cI cJ aM (upd (upd (upd (upd (upd (upd (upd q16.1 (1 + (7 * (q16.1 (0 : Int32).toNatClampNeg))).toNatClampNeg p0) ((1 + (7 * (q16.1 (0 : Int32).toNatClampNeg))) + 1).toNatClampNeg p1) ((1 + (7 * (q16.1 (0 : Int32).toNatClampNeg))) + 2).toNatClampNeg p2) ((1 + (7 * (q16.1 (0 : Int32).toNatClampNeg))) + 3).toNatClampNeg p3) ((1 + (7 * (q16.1 (0 : Int32).toNatClampNeg))) + 4).toNatClampNeg p4) ((1 + (7 * (q16.1 (0 : Int32).toNatClampNeg))) + 5).toNatClampNeg p5) ((1 + (7 * (q16.1 (0 : Int32).toNatClampNeg))) + 6).toNatClampNeg 0) q16.2.1 tab goa bes tic txt par q16.2.2 bwh bpr bse len mat ask hh ++ ([] : va_W)) := hD
                refine lv_aload_n hx hb dX5_addThruster_170 rfl (lv_at hl 1 rfl) ?_
                refine va_get (D := G) (ci := 5) (v := .ref (aM 1)) (C := RX5) (T := TX5) (N := 16) hx hb hts uX5 hown hK hP 0 rfl rfl 0 (by decide) (hts _ kw579) (fun _ h9 => h9) rfl dX5_addThruster_171 ?_
                refine lv_bipush (v := 108) hx hb dX5_addThruster_174 (by decide) ?_
                refine lv_aload_n hx hb dX5_addThruster_176 rfl (lv_at hl 1 rfl) ?_
                refine va_get (D := G) (ci := 5) (v := .ref (aM 1)) (C := RX5) (T := TX5) (N := 16) hx hb hts uX5 hown hK hP 0 rfl rfl 0 (by decide) (hts _ kw579) (fun _ h9 => h9) rfl dX5_addThruster_177 ?_
                refine lv_iconst (v := 0) hx hb dX5_addThruster_180 (by decide) ?_
                obtain ⟨g25, h⟩ := gd_s h
                refine va_iald hx hb hK hP 1 0 rfl rfl (ib_in g25) dX5_addThruster_181 ?_
                refine lv_iadd hx hb dX5_addThruster_182 ?_
                refine lv_iconst (v := 0) hx hb dX5_addThruster_183 (by decide) ?_
                obtain ⟨g26, h⟩ := gd_s h
                refine va_iast hx hb hK hP hD hS 1 0 rfl rfl (ib_in g26) dX5_addThruster_184 (fun H locs hP hD hS => ?_)
                have hP : va_P G vwCl (wM cI cJ aM (upd (upd (upd (upd (upd (upd (upd (upd q16.1 (1 + (7 * (q16.1 (0 : Int32).toNatClampNeg))).toNatClampNeg p0) ((1 + (7 * (q16.1 (0 : Int32).toNatClampNeg))) + 1).toNatClampNeg p1) ((1 + (7 * (q16.1 (0 : Int32).toNatClampNeg))) + 2).toNatClampNeg p2) ((1 + (7 * (q16.1 (0 : Int32).toNatClampNeg))) + 3).toNatClampNeg p3) ((1 + (7 * (q16.1 (0 : Int32).toNatClampNeg))) + 4).toNatClampNeg p4) ((1 + (7 * (q16.1 (0 : Int32).toNatClampNeg))) + 5).toNatClampNeg p5) ((1 + (7 * (q16.1 (0 : Int32).toNatClampNeg))) + 6).toNatClampNeg 0) (108 + ((upd (upd (upd (upd (upd (upd (upd q16.1 (1 + (7 * (q16.1 (0 : Int32).toNatClampNeg))).toNatClampNeg p0) ((1 + (7 * (q16.1 (0 : Int32).toNatClampNeg))) + 1).toNatClampNeg p1) ((1 + (7 * (q16.1 (0 : Int32).toNatClampNeg))) + 2).toNatClampNeg p2) ((1 + (7 * (q16.1 (0 : Int32).toNatClampNeg))) + 3).toNatClampNeg p3) ((1 + (7 * (q16.1 (0 : Int32).toNatClampNeg))) + 4).toNatClampNeg p4) ((1 + (7 * (q16.1 (0 : Int32).toNatClampNeg))) + 5).toNatClampNeg p5) ((1 + (7 * (q16.1 (0 : Int32).toNatClampNeg))) + 6).toNatClampNeg 0) (0 : Int32).toNatClampNeg)).toNatClampNeg 0) q16.2.1 tab goa bes tic txt par q16.2.2 bwh bpr bse len mat ask hh ++ ([] : va_W)) H := hP
                have hD : va_D A (wM cI cJ aM (upd (upd (upd (upd (upd (upd (upd (upd q16.1 (1 + (7 * (q16.1 (0 : Int32).toNatClampNeg))).toNatClampNeg p0) ((1 + (7 * (q16.1 (0 : Int32).toNatClampNeg))) + 1).toNatClampNeg p1) ((1 + (7 * (q16.1 (0 : Int32).toNatClampNeg))) + 2).toNatClampNeg p2) ((1 + (7 * (q16.1 (0 : Int32).toNatClampNeg))) + 3).toNatClampNeg p3) ((1 + (7 * (q16.1 (0 : Int32).toNatClampNeg))) + 4).toNatClampNeg p4) ((1 + (7 * (q16.1 (0 : Int32).toNatClampNeg))) + 5).toNatClampNeg p5) ((1 + (7 * (q16.1 (0 : Int32).toNatClampNeg))) + 6).toNatClampNeg 0) (108 + ((upd (upd (upd (upd (upd (upd (upd q16.1 (1 + (7 * (q16.1 (0 : Int32).toNatClampNeg))).toNatClampNeg p0) ((1 + (7 * (q16.1 (0 : Int32).toNatClampNeg))) + 1).toNatClampNeg p1) ((1 + (7 * (q16.1 (0 : Int32).toNatClampNeg))) + 2).toNatClampNeg p2) ((1 + (7 * (q16.1 (0 : Int32).toNatClampNeg))) + 3).toNatClampNeg p3) ((1 + (7 * (q16.1 (0 : Int32).toNatClampNeg))) + 4).toNatClampNeg p4) ((1 + (7 * (q16.1 (0 : Int32).toNatClampNeg))) + 5).toNatClampNeg p5) ((1 + (7 * (q16.1 (0 : Int32).toNatClampNeg))) + 6).toNatClampNeg 0) (0 : Int32).toNatClampNeg)).toNatClampNeg 0) q16.2.1 tab goa bes tic txt par q16.2.2 bwh bpr bse len mat ask hh ++ ([] : va_W)) := hD
                refine lv_aload_n hx hb dX5_addThruster_185 rfl (lv_at hl 1 rfl) ?_
                refine va_get (D := G) (ci := 5) (v := .ref (aM 1)) (C := RX5) (T := TX5) (N := 16) hx hb hts uX5 hown hK hP 0 rfl rfl 0 (by decide) (hts _ kw579) (fun _ h9 => h9) rfl dX5_addThruster_186 ?_
                refine lv_iconst (v := 0) hx hb dX5_addThruster_189 (by decide) ?_
                refine lv_dup2_11 hx hb dX5_addThruster_190 rfl rfl ?_
                obtain ⟨g27, h⟩ := gd_s h
                refine va_iald hx hb hK hP 1 0 rfl rfl (ib_in g27) dX5_addThruster_191 ?_
                refine lv_iconst (v := 1) hx hb dX5_addThruster_192 (by decide) ?_
                refine lv_iadd hx hb dX5_addThruster_193 ?_
                obtain ⟨g28, h⟩ := gd_s h
                refine va_iast hx hb hK hP hD hS 1 0 rfl rfl (ib_in g28) dX5_addThruster_194 (fun H locs hP hD hS => ?_)
                have hP : va_P G vwCl (wM cI cJ aM (upd (upd (upd (upd (upd (upd (upd (upd (upd q16.1 (1 + (7 * (q16.1 (0 : Int32).toNatClampNeg))).toNatClampNeg p0) ((1 + (7 * (q16.1 (0 : Int32).toNatClampNeg))) + 1).toNatClampNeg p1) ((1 + (7 * (q16.1 (0 : Int32).toNatClampNeg))) + 2).toNatClampNeg p2) ((1 + (7 * (q16.1 (0 : Int32).toNatClampNeg))) + 3).toNatClampNeg p3) ((1 + (7 * (q16.1 (0 : Int32).toNatClampNeg))) + 4).toNatClampNeg p4) ((1 + (7 * (q16.1 (0 : Int32).toNatClampNeg))) + 5).toNatClampNeg p5) ((1 + (7 * (q16.1 (0 : Int32).toNatClampNeg))) + 6).toNatClampNeg 0) (108 + ((upd (upd (upd (upd (upd (upd (upd q16.1 (1 + (7 * (q16.1 (0 : Int32).toNatClampNeg))).toNatClampNeg p0) ((1 + (7 * (q16.1 (0 : Int32).toNatClampNeg))) + 1).toNatClampNeg p1) ((1 + (7 * (q16.1 (0 : Int32).toNatClampNeg))) + 2).toNatClampNeg p2) ((1 + (7 * (q16.1 (0 : Int32).toNatClampNeg))) + 3).toNatClampNeg p3) ((1 + (7 * (q16.1 (0 : Int32).toNatClampNeg))) + 4).toNatClampNeg p4) ((1 + (7 * (q16.1 (0 : Int32).toNatClampNeg))) + 5).toNatClampNeg p5) ((1 + (7 * (q16.1 (0 : Int32).toNatClampNeg))) + 6).toNatClampNeg 0) (0 : Int32).toNatClampNeg)).toNatClampNeg 0) (0 : Int32).toNatClampNeg (((upd (upd (upd (upd (upd (upd (upd (upd q16.1 (1 + (7 * (q16.1 (0 : Int32).toNatClampNeg))).toNatClampNeg p0) ((1 + (7 * (q16.1 (0 : Int32).toNatClampNeg))) + 1).toNatClampNeg p1) ((1 + (7 * (q16.1 (0 : Int32).toNatClampNeg))) + 2).toNatClampNeg p2) ((1 + (7 * (q16.1 (0 : Int32).toNatClampNeg))) + 3).toNatClampNeg p3) ((1 + (7 * (q16.1 (0 : Int32).toNatClampNeg))) + 4).toNatClampNeg p4) ((1 + (7 * (q16.1 (0 : Int32).toNatClampNeg))) + 5).toNatClampNeg p5) ((1 + (7 * (q16.1 (0 : Int32).toNatClampNeg))) + 6).toNatClampNeg 0) (108 + ((upd (upd (upd (upd (upd (upd (upd q16.1 (1 + (7 * (q16.1 (0 : Int32).toNatClampNeg))).toNatClampNeg p0) ((1 + (7 * (q16.1 (0 : Int32).toNatClampNeg))) + 1).toNatClampNeg p1) ((1 + (7 * (q16.1 (0 : Int32).toNatClampNeg))) + 2).toNatClampNeg p2) ((1 + (7 * (q16.1 (0 : Int32).toNatClampNeg))) + 3).toNatClampNeg p3) ((1 + (7 * (q16.1 (0 : Int32).toNatClampNeg))) + 4).toNatClampNeg p4) ((1 + (7 * (q16.1 (0 : Int32).toNatClampNeg))) + 5).toNatClampNeg p5) ((1 + (7 * (q16.1 (0 : Int32).toNatClampNeg))) + 6).toNatClampNeg 0) (0 : Int32).toNatClampNeg)).toNatClampNeg 0) (0 : Int32).toNatClampNeg) + 1)) q16.2.1 tab goa bes tic txt par q16.2.2 bwh bpr bse len mat ask hh ++ ([] : va_W)) H := hP
                have hD : va_D A (wM cI cJ aM (upd (upd (upd (upd (upd (upd (upd (upd (upd q16.1 (1 + (7 * (q16.1 (0 : Int32).toNatClampNeg))).toNatClampNeg p0) ((1 + (7 * (q16.1 (0 : Int32).toNatClampNeg))) + 1).toNatClampNeg p1) ((1 + (7 * (q16.1 (0 : Int32).toNatClampNeg))) + 2).toNatClampNeg p2) ((1 + (7 * (q16.1 (0 : Int32).toNatClampNeg))) + 3).toNatClampNeg p3) ((1 + (7 * (q16.1 (0 : Int32).toNatClampNeg))) + 4).toNatClampNeg p4) ((1 + (7 * (q16.1 (0 : Int32).toNatClampNeg))) + 5).toNatClampNeg p5) ((1 + (7 * (q16.1 (0 : Int32).toNatClampNeg))) + 6).toNatClampNeg 0) (108 + ((upd (upd (upd (upd (upd (upd (upd q16.1 (1 + (7 * (q16.1 (0 : Int32).toNatClampNeg))).toNatClampNeg p0) ((1 + (7 * (q16.1 (0 : Int32).toNatClampNeg))) + 1).toNatClampNeg p1) ((1 + (7 * (q16.1 (0 : Int32).toNatClampNeg))) + 2).toNatClampNeg p2) ((1 + (7 * (q16.1 (0 : Int32).toNatClampNeg))) + 3).toNatClampNeg p3) ((1 + (7 * (q16.1 (0 : Int32).toNatClampNeg))) + 4).toNatClampNeg p4) ((1 + (7 * (q16.1 (0 : Int32).toNatClampNeg))) + 5).toNatClampNeg p5) ((1 + (7 * (q16.1 (0 : Int32).toNatClampNeg))) + 6).toNatClampNeg 0) (0 : Int32).toNatClampNeg)).toNatClampNeg 0) (0 : Int32).toNatClampNeg (((upd (upd (upd (upd (upd (upd (upd (upd q16.1 (1 + (7 * (q16.1 (0 : Int32).toNatClampNeg))).toNatClampNeg p0) ((1 + (7 * (q16.1 (0 : Int32).toNatClampNeg))) + 1).toNatClampNeg p1) ((1 + (7 * (q16.1 (0 : Int32).toNatClampNeg))) + 2).toNatClampNeg p2) ((1 + (7 * (q16.1 (0 : Int32).toNatClampNeg))) + 3).toNatClampNeg p3) ((1 + (7 * (q16.1 (0 : Int32).toNatClampNeg))) + 4).toNatClampNeg p4) ((1 + (7 * (q16.1 (0 : Int32).toNatClampNeg))) + 5).toNatClampNeg p5) ((1 + (7 * (q16.1 (0 : Int32).toNatClampNeg))) + 6).toNatClampNeg 0) (108 + ((upd (upd (upd (upd (upd (upd (upd q16.1 (1 + (7 * (q16.1 (0 : Int32).toNatClampNeg))).toNatClampNeg p0) ((1 + (7 * (q16.1 (0 : Int32).toNatClampNeg))) + 1).toNatClampNeg p1) ((1 + (7 * (q16.1 (0 : Int32).toNatClampNeg))) + 2).toNatClampNeg p2) ((1 + (7 * (q16.1 (0 : Int32).toNatClampNeg))) + 3).toNatClampNeg p3) ((1 + (7 * (q16.1 (0 : Int32).toNatClampNeg))) + 4).toNatClampNeg p4) ((1 + (7 * (q16.1 (0 : Int32).toNatClampNeg))) + 5).toNatClampNeg p5) ((1 + (7 * (q16.1 (0 : Int32).toNatClampNeg))) + 6).toNatClampNeg 0) (0 : Int32).toNatClampNeg)).toNatClampNeg 0) (0 : Int32).toNatClampNeg) + 1)) q16.2.1 tab goa bes tic txt par q16.2.2 bwh bpr bse len mat ask hh ++ ([] : va_W)) := hD
                refine lv_aload_n hx hb dX5_addThruster_195 rfl (lv_at hl 1 rfl) ?_
                refine va_get (D := G) (ci := 5) (v := .ref (aM 1)) (C := RX5) (T := TX5) (N := 16) hx hb hts uX5 hown hK hP 0 rfl rfl 0 (by decide) (hts _ kw579) (fun _ h9 => h9) rfl dX5_addThruster_196 ?_
                refine lv_iconst (v := 0) hx hb dX5_addThruster_199 (by decide) ?_
                obtain ⟨g29, h⟩ := gd_s h
                refine va_iald hx hb hK hP 1 0 rfl rfl (ib_in g29) dX5_addThruster_200 ?_
                refine lv_iconst (v := 1) hx hb dX5_addThruster_201 (by decide) ?_
                refine lv_isub hx hb dX5_addThruster_202 ?_
                rw [← Option.some.inj h]
                exact kri hx hb hr hlk rfl rfl hP hD hS hK dX5_addThruster_203
              · replace h := (if_pos c15).symm.trans h
                refine lv_ldc (v := (-2000000004)) hx hb hown (hts _ kw640) dX5_addThruster_78 ?_
                rw [← Option.some.inj h]
                exact kri hx hb hr hlk rfl rfl hP hD hS hK dX5_addThruster_80
            · replace h := (if_pos c13).symm.trans h
              exact hJ5 row tot sav _ _ _ h hP hD hS (lv_sub hl [] rfl)
  · replace h := (if_pos c2).symm.trans h
    refine lv_ldc (v := (-2000000001)) hx hb hown (hts _ kw638) dX5_addThruster_8 ?_
    rw [← Option.some.inj h]
    exact kri hx hb hr hlk rfl rfl hP hD hS hK dX5_addThruster_10

/-! X5_setState -/
def f_X5_setState (row : Nat → Int32) (tot : Nat → Int64) (sav : Int32) (p0 : Int32) (p1 : Int32) : Option (Int32 × (Nat → Int32) × (Nat → Int64) × Int32) :=
  (f_X5_isThruster row p0).bind (fun q1 => if q1 = 0 then (some ((-2000000001), row, tot, sav)) else ((f_X5_in p1 0 2).bind (fun q3 => if q3 = 0 then (some ((-2000000002), row, tot, sav)) else ((f_X5_saves row tot sav).bind (fun q5 => (f_X5_of q5.1 p0 6).bind (fun q6 => gd (ib ((1 + (7 * p0)) + 6) 708) (some (q6, (upd q5.1 ((1 + (7 * p0)) + 6).toNatClampNeg p1), q5.2.1, q5.2.2))))))))

set_option maxHeartbeats 4000000 in
set_option maxRecDepth 100000 in
theorem c_X5_setState (l : Launch) (G : va_G) (cI cJ cZ cO cA : ClassId) (e : Nat × Nat) (aM : Nat → Nat) (sz : Nat) (row : Nat → Int32) (tot : Nat → Int64) (tab : Nat → Int64) (goa : Nat → Int64) (bes : Nat → Int64) (tic : Nat → Int64) (txt : Nat → Int32) (par : Nat → Int32) (sav : Int32) (bwh : Int64) (bpr : Int64) (bse : Int32) (len : Int32) (mat : Int32) (ask : Int32) (hh : Int64) (p0 : Int32) (p1 : Int32) {res : Int32 × (Nat → Int32) × (Nat → Int64) × Int32} (hf : f_X5_setState row tot sav p0 p1 = some res) : MetI l yX5_setState cX5_setState 4 .int ({ frames := 2, cells := 0, slots := 0, locals := 44 } : Room) [.ref (aM 0), .int p0, .int p1] G (ty5 cI cJ cZ cO cA) e (wM cI cJ aM row tot tab goa bes tic txt par sav bwh bpr bse len mat ask hh ++ ([] : va_W)) (wM cI cJ aM res.2.1 res.2.2.1 tab goa bes tic txt par res.2.2.2 bwh bpr bse len mat ask hh ++ ([] : va_W)) sz res.1 := by
  refine g_body (QQ := fun A => (qI G (ty5 cI cJ cZ cO cA) A (wM cI cJ aM res.2.1 res.2.2.1 tab goa bes tic txt par res.2.2.2 bwh bpr bse len mat ask hh ++ ([] : va_W)) res.1)) (own := RX5) (by decide) rfl (Nat.le_of_ble_eq_true rfl) ?_
  intro p ev s m below meth c A ls hx hb hr hml hown hts hlk hA hP hD hS hK hE hl
  have hl : lv_has ls 4 [(0, .ref (aM 0)), (1, .int p0), (2, .int p1)] := hl
  show W p l ev ({ frames := 2, cells := 0, slots := 0, locals := 44 } : Room) s m ([.ref (aM 0), .int p0, .int p1] : List Value).toArray below meth c s.heap [] 0 0 (MQ below (qI G (ty5 cI cJ cZ cO cA) A (wM cI cJ aM res.2.1 res.2.2.1 tab goa bes tic txt par res.2.2.2 bwh bpr bse len mat ask hh ++ ([] : va_W)) res.1) ([.ref (aM 0), .int p0, .int p1] : List Value).toArray s 0 0 A) (F0 m 0 ls [])
  have h := hf
  unfold f_X5_setState at h
  refine lv_aload_n hx hb dX5_setState_0 rfl (lv_at hl 0 rfl) ?_
  refine lv_iload_n hx hb dX5_setState_1 rfl (lv_at hl 1 rfl) ?_
  obtain ⟨q1, hq1, h⟩ := bd_s h
  refine kVi (n := 1) (C := RX5) (ws' := wM cI cJ aM row tot tab goa bes tic txt par sav bwh bpr bse len mat ask hh ++ ([] : va_W)) (As := [.int p0]) (rest := []) hx hb hml hown hts (c_X5_isThruster l G cI cJ cZ cO cA e aM _ row tot tab goa bes tic txt par sav bwh bpr bse len mat ask hh p0 hq1) (tb_V kw653 kw655 kv16 kw7 kw656) rfl rfl (by decide +kernel) ⟨Nat.le_of_ble_eq_true rfl, Nat.le_of_ble_eq_true rfl⟩ hK hP hD hS hA hE 0 rfl rfl [0, 1, 2, 3, 4, 5, 6, 7, 8] [] rfl rfl rfl 9 ⟨rfl, rfl⟩ (by decide +kernel) (by decide +kernel) rfl rfl hl.1 (Nat.le_of_ble_eq_true rfl) ⟨Nat.zero_le _, Nat.zero_le _⟩ dX5_setState_2 (fun H locs hP hD hS => ?_)
  refine lv_if_ne (tgt := 11) hx hb dX5_setState_5 (by decide) (fun c2 => ?_) (fun c2 => ?_)
  · replace h := (if_neg c2).symm.trans h
    refine lv_iload_n hx hb dX5_setState_11 rfl (lv_at hl 2 rfl) ?_
    refine lv_iconst (v := 0) hx hb dX5_setState_12 (by decide) ?_
    refine lv_iconst (v := 2) hx hb dX5_setState_13 (by decide) ?_
    obtain ⟨q3, hq3, h⟩ := bd_s h
    refine kSi (n := 3) (As := [.int p1, .int 0, .int 2]) (rest := []) hx hb hml hown hts (c_X5_in l G cI cJ cZ cO cA e _ p1 0 2 hq3) (tb_S kw635 kw636 kw7 kw637) rfl rfl (by decide +kernel) ⟨Nat.le_of_ble_eq_true rfl, Nat.le_of_ble_eq_true rfl⟩ hK hP hD hS hA hE rfl rfl hl.1 (Nat.le_of_ble_eq_true rfl) ⟨Nat.zero_le _, Nat.zero_le _⟩ dX5_setState_14 (fun H locs hP hD hS => ?_)
    refine lv_if_ne (tgt := 23) hx hb dX5_setState_17 (by decide) (fun c4 => ?_) (fun c4 => ?_)
    · replace h := (if_neg c4).symm.trans h
      refine lv_aload_n hx hb dX5_setState_23 rfl (lv_at hl 0 rfl) ?_
      obtain ⟨q5, hq5, h⟩ := bd_s h
      refine kVv (n := 0) (C := RX5) (ws' := wM cI cJ aM q5.1 q5.2.1 tab goa bes tic txt par q5.2.2 bwh bpr bse len mat ask hh ++ ([] : va_W)) (As := []) (rest := []) hx hb hml hown hts (c_X5_saves l G cI cJ cZ cO cA e aM _ row tot tab goa bes tic txt par sav bwh bpr bse len mat ask hh hq5) (tb_V kw641 kw643 kv14 kw7 kw644) rfl rfl (by decide +kernel) ⟨Nat.le_of_ble_eq_true rfl, Nat.le_of_ble_eq_true rfl⟩ hK hP hD hS hA hE 0 rfl rfl [0, 1, 2, 3, 4, 5, 6, 7, 8] [] rfl rfl rfl 9 ⟨rfl, rfl⟩ (by decide +kernel) (by decide +kernel) rfl rfl hl.1 (Nat.le_of_ble_eq_true rfl) ⟨Nat.zero_le _, Nat.zero_le _⟩ dX5_setState_24 (fun H locs hP hD hS => ?_)
      refine lv_aload_n hx hb dX5_setState_27 rfl (lv_at hl 0 rfl) ?_
      refine lv_iload_n hx hb dX5_setState_28 rfl (lv_at hl 1 rfl) ?_
      refine lv_bipush (v := 6) hx hb dX5_setState_29 (by decide) ?_
      obtain ⟨q6, hq6, h⟩ := bd_s h
      refine kVi (n := 2) (C := RX5) (ws' := wM cI cJ aM q5.1 q5.2.1 tab goa bes tic txt par q5.2.2 bwh bpr bse len mat ask hh ++ ([] : va_W)) (As := [.int p0, .int 6]) (rest := []) hx hb hml hown hts (c_X5_of l G cI cJ cZ cO cA e aM _ q5.1 q5.2.1 tab goa bes tic txt par q5.2.2 bwh bpr bse len mat ask hh p0 6 hq6) (tb_V kw657 kw659 kv17 kw7 kw660) rfl rfl (by decide +kernel) ⟨Nat.le_of_ble_eq_true rfl, Nat.le_of_ble_eq_true rfl⟩ hK hP hD hS hA hE 0 rfl rfl [0, 1, 2, 3, 4, 5, 6, 7, 8] [] rfl rfl rfl 9 ⟨rfl, rfl⟩ (by decide +kernel) (by decide +kernel) rfl rfl hl.1 (Nat.le_of_ble_eq_true rfl) ⟨Nat.zero_le _, Nat.zero_le _⟩ dX5_setState_31 (fun H locs hP hD hS => ?_)
      refine lv_istore_n (lv' := [(3, .int q6), (0, .ref (aM 0)), (1, .int p0), (2, .int p1)]) hx hb dX5_setState_34 rfl hl (by decide) rfl (fun ls hl => ?_)
      refine lv_aload_n hx hb dX5_setState_35 rfl (lv_at hl 1 rfl) ?_
      refine va_get (D := G) (ci := 5) (v := .ref (aM 1)) (C := RX5) (T := TX5) (N := 16) hx hb hts uX5 hown hK hP 0 rfl rfl 0 (by decide) (hts _ kw579) (fun _ h9 => h9) rfl dX5_setState_36 ?_
      refine lv_iconst (v := 1) hx hb dX5_setState_39 (by decide) ?_
      refine lv_bipush (v := 7) hx hb dX5_setState_40 (by decide) ?_
      refine lv_iload_n hx hb dX5_setState_42 rfl (lv_at hl 2 rfl) ?_
      refine lv_imul hx hb dX5_setState_43 ?_
      refine lv_iadd hx hb dX5_setState_44 ?_
      refine lv_bipush (v := 6) hx hb dX5_setState_45 (by decide) ?_
      refine lv_iadd hx hb dX5_setState_47 ?_
      refine lv_iload_n hx hb dX5_setState_48 rfl (lv_at hl 3 rfl) ?_
      obtain ⟨g7, h⟩ := gd_s h
      refine va_iast hx hb hK hP hD hS 1 0 rfl rfl (ib_in g7) dX5_setState_49 (fun H locs hP hD hS => ?_)
      have hP : va_P G vwCl (wM cI cJ aM (upd q5.1 ((1 + (7 * p0)) + 6).toNatClampNeg p1) q5.2.1 tab goa bes tic txt par q5.2.2 bwh bpr bse len mat ask hh ++ ([] : va_W)) H := hP
      have hD : va_D A (wM cI cJ aM (upd q5.1 ((1 + (7 * p0)) + 6).toNatClampNeg p1) q5.2.1 tab goa bes tic txt par q5.2.2 bwh bpr bse len mat ask hh ++ ([] : va_W)) := hD
      refine lv_iload_n hx hb dX5_setState_50 rfl (lv_at hl 0 rfl) ?_
      rw [← Option.some.inj h]
      exact kri hx hb hr hlk rfl rfl hP hD hS hK dX5_setState_51
    · replace h := (if_pos c4).symm.trans h
      refine lv_ldc (v := (-2000000002)) hx hb hown (hts _ kw639) dX5_setState_20 ?_
      rw [← Option.some.inj h]
      exact kri hx hb hr hlk rfl rfl hP hD hS hK dX5_setState_22
  · replace h := (if_pos c2).symm.trans h
    refine lv_ldc (v := (-2000000001)) hx hb hown (hts _ kw638) dX5_setState_8 ?_
    rw [← Option.some.inj h]
    exact kri hx hb hr hlk rfl rfl hP hD hS hK dX5_setState_10

/-! X5_thrusters -/
def f_X5_thrusters (row : Nat → Int32) : Option (Int32) :=
  gd (ib 0 708) (some (row (0 : Int32).toNatClampNeg))

set_option maxHeartbeats 4000000 in
set_option maxRecDepth 100000 in
theorem c_X5_thrusters (l : Launch) (G : va_G) (cI cJ cZ cO cA : ClassId) (e : Nat × Nat) (aM : Nat → Nat) (sz : Nat) (row : Nat → Int32) (tot : Nat → Int64) (tab : Nat → Int64) (goa : Nat → Int64) (bes : Nat → Int64) (tic : Nat → Int64) (txt : Nat → Int32) (par : Nat → Int32) (sav : Int32) (bwh : Int64) (bpr : Int64) (bse : Int32) (len : Int32) (mat : Int32) (ask : Int32) (hh : Int64) {res : Int32} (hf : f_X5_thrusters row = some res) : MetI l yX5_thrusters cX5_thrusters 1 .int ({ frames := 0, cells := 0, slots := 0, locals := 0 } : Room) [.ref (aM 0)] G (ty5 cI cJ cZ cO cA) e (wM cI cJ aM row tot tab goa bes tic txt par sav bwh bpr bse len mat ask hh ++ ([] : va_W)) (wM cI cJ aM row tot tab goa bes tic txt par sav bwh bpr bse len mat ask hh ++ ([] : va_W)) sz res := by
  refine g_body (QQ := fun A => (qI G (ty5 cI cJ cZ cO cA) A (wM cI cJ aM row tot tab goa bes tic txt par sav bwh bpr bse len mat ask hh ++ ([] : va_W)) res)) (own := RX5) (by decide) rfl (Nat.le_of_ble_eq_true rfl) ?_
  intro p ev s m below meth c A ls hx hb hr hml hown hts hlk hA hP hD hS hK hE hl
  have hl : lv_has ls 1 [(0, .ref (aM 0))] := hl
  show W p l ev ({ frames := 0, cells := 0, slots := 0, locals := 0 } : Room) s m ([.ref (aM 0)] : List Value).toArray below meth c s.heap [] 0 0 (MQ below (qI G (ty5 cI cJ cZ cO cA) A (wM cI cJ aM row tot tab goa bes tic txt par sav bwh bpr bse len mat ask hh ++ ([] : va_W)) res) ([.ref (aM 0)] : List Value).toArray s 0 0 A) (F0 m 0 ls [])
  have h := hf
  unfold f_X5_thrusters at h
  refine lv_aload_n hx hb dX5_thrusters_0 rfl (lv_at hl 0 rfl) ?_
  refine va_get (D := G) (ci := 5) (v := .ref (aM 1)) (C := RX5) (T := TX5) (N := 16) hx hb hts uX5 hown hK hP 0 rfl rfl 0 (by decide) (hts _ kw579) (fun _ h9 => h9) rfl dX5_thrusters_1 ?_
  refine lv_iconst (v := 0) hx hb dX5_thrusters_4 (by decide) ?_
  obtain ⟨g1, h⟩ := gd_s h
  refine va_iald hx hb hK hP 1 0 rfl rfl (ib_in g1) dX5_thrusters_5 ?_
  rw [← Option.some.inj h]
  exact kri hx hb hr hlk rfl rfl hP hD hS hK dX5_thrusters_6

/-! X5_thruster -/
def f_X5_thruster_j43 (row : Nat → Int32) (v1 : Int32) (v2 : Int32) (t0 : Int32) : Option (Int32) :=
  if 7 ≤ v2 then (if t0 = 0 then (some 0) else (some 1)) else ((f_X5_of row v1 v2).bind (fun q9 => some q9))
def f_X5_thruster (row : Nat → Int32) (p0 : Int32) (p1 : Int32) : Option (Int32) :=
  (f_X5_isThruster row p0).bind (fun q1 => if q1 = 0 then (some (-2000000001)) else ((f_X5_in p1 0 8).bind (fun q3 => if q3 = 0 then (some (-2000000002)) else (if p1 = 7 then ((f_X5_isUsable row p0).bind (fun q11 => f_X5_thruster_j43 row p0 p1 q11)) else ((f_X5_isRunning row p0).bind (fun q10 => f_X5_thruster_j43 row p0 p1 q10))))))

set_option maxHeartbeats 4000000 in
set_option maxRecDepth 100000 in
theorem c_X5_thruster (l : Launch) (G : va_G) (cI cJ cZ cO cA : ClassId) (e : Nat × Nat) (aM : Nat → Nat) (sz : Nat) (row : Nat → Int32) (tot : Nat → Int64) (tab : Nat → Int64) (goa : Nat → Int64) (bes : Nat → Int64) (tic : Nat → Int64) (txt : Nat → Int32) (par : Nat → Int32) (sav : Int32) (bwh : Int64) (bpr : Int64) (bse : Int32) (len : Int32) (mat : Int32) (ask : Int32) (hh : Int64) (p0 : Int32) (p1 : Int32) {res : Int32} (hf : f_X5_thruster row p0 p1 = some res) : MetI l yX5_thruster cX5_thruster 4 .int ({ frames := 3, cells := 0, slots := 0, locals := 64 } : Room) [.ref (aM 0), .int p0, .int p1] G (ty5 cI cJ cZ cO cA) e (wM cI cJ aM row tot tab goa bes tic txt par sav bwh bpr bse len mat ask hh ++ ([] : va_W)) (wM cI cJ aM row tot tab goa bes tic txt par sav bwh bpr bse len mat ask hh ++ ([] : va_W)) sz res := by
  refine g_body (QQ := fun A => (qI G (ty5 cI cJ cZ cO cA) A (wM cI cJ aM row tot tab goa bes tic txt par sav bwh bpr bse len mat ask hh ++ ([] : va_W)) res)) (own := RX5) (by decide) rfl (Nat.le_of_ble_eq_true rfl) ?_
  intro p ev s m below meth c A ls hx hb hr hml hown hts hlk hA hP hD hS hK hE hl
  have hl : lv_has ls 4 [(0, .ref (aM 0)), (1, .int p0), (2, .int p1)] := hl
  show W p l ev ({ frames := 3, cells := 0, slots := 0, locals := 64 } : Room) s m ([.ref (aM 0), .int p0, .int p1] : List Value).toArray below meth c s.heap [] 0 0 (MQ below (qI G (ty5 cI cJ cZ cO cA) A (wM cI cJ aM row tot tab goa bes tic txt par sav bwh bpr bse len mat ask hh ++ ([] : va_W)) res) ([.ref (aM 0), .int p0, .int p1] : List Value).toArray s 0 0 A) (F0 m 0 ls [])
  have h := hf
  unfold f_X5_thruster at h
  refine lv_aload_n hx hb dX5_thruster_0 rfl (lv_at hl 0 rfl) ?_
  refine lv_iload_n hx hb dX5_thruster_1 rfl (lv_at hl 1 rfl) ?_
  obtain ⟨q1, hq1, h⟩ := bd_s h
  refine kVi (n := 1) (C := RX5) (ws' := wM cI cJ aM row tot tab goa bes tic txt par sav bwh bpr bse len mat ask hh ++ ([] : va_W)) (As := [.int p0]) (rest := []) hx hb hml hown hts (c_X5_isThruster l G cI cJ cZ cO cA e aM _ row tot tab goa bes tic txt par sav bwh bpr bse len mat ask hh p0 hq1) (tb_V kw653 kw655 kv16 kw7 kw656) rfl rfl (by decide +kernel) ⟨Nat.le_of_ble_eq_true rfl, Nat.le_of_ble_eq_true rfl⟩ hK hP hD hS hA hE 0 rfl rfl [0, 1, 2, 3, 4, 5, 6, 7, 8] [] rfl rfl rfl 9 ⟨rfl, rfl⟩ (by decide +kernel) (by decide +kernel) rfl rfl hl.1 (Nat.le_of_ble_eq_true rfl) ⟨Nat.zero_le _, Nat.zero_le _⟩ dX5_thruster_2 (fun H locs hP hD hS => ?_)
  refine lv_if_ne (tgt := 11) hx hb dX5_thruster_5 (by decide) (fun c2 => ?_) (fun c2 => ?_)
  · replace h := (if_neg c2).symm.trans h
    refine lv_iload_n hx hb dX5_thruster_11 rfl (lv_at hl 2 rfl) ?_
    refine lv_iconst (v := 0) hx hb dX5_thruster_12 (by decide) ?_
    refine lv_bipush (v := 8) hx hb dX5_thruster_13 (by decide) ?_
    obtain ⟨q3, hq3, h⟩ := bd_s h
    refine kSi (n := 3) (As := [.int p1, .int 0, .int 8]) (rest := []) hx hb hml hown hts (c_X5_in l G cI cJ cZ cO cA e _ p1 0 8 hq3) (tb_S kw635 kw636 kw7 kw637) rfl rfl (by decide +kernel) ⟨Nat.le_of_ble_eq_true rfl, Nat.le_of_ble_eq_true rfl⟩ hK hP hD hS hA hE rfl rfl hl.1 (Nat.le_of_ble_eq_true rfl) ⟨Nat.zero_le _, Nat.zero_le _⟩ dX5_thruster_15 (fun H locs hP hD hS => ?_)
    refine lv_if_ne (tgt := 24) hx hb dX5_thruster_18 (by decide) (fun c4 => ?_) (fun c4 => ?_)
    · replace h := (if_neg c4).symm.trans h
      refine lv_iload_n hx hb dX5_thruster_24 rfl (lv_at hl 2 rfl) ?_
      refine lv_bipush (v := 7) hx hb dX5_thruster_25 (by decide) ?_
      have hJ6 : ∀ (t0_6 : Int32) (H : Heap) (locs : List Loc) (ls : Array Slot), f_X5_thruster_j43 row p0 p1 t0_6 = some res → va_P G vwCl (wM cI cJ aM row tot tab goa bes tic txt par sav bwh bpr bse len mat ask hh ++ ([] : va_W)) H → va_D A (wM cI cJ aM row tot tab goa bes tic txt par sav bwh bpr bse len mat ask hh ++ ([] : va_W)) → va_S A s.heap H locs → lv_has ls 4 [(0, .ref (aM 0)), (1, .int p0), (2, .int p1)] → W p l ev ({ frames := 3, cells := 0, slots := 0, locals := 64 } : Room) s m ([.ref (aM 0), .int p0, .int p1] : List Value).toArray below meth c H locs 0 0 (MQ below (qI G (ty5 cI cJ cZ cO cA) A (wM cI cJ aM row tot tab goa bes tic txt par sav bwh bpr bse len mat ask hh ++ ([] : va_W)) res) ([.ref (aM 0), .int p0, .int p1] : List Value).toArray s 0 0 A) (F0 m 43 ls [.int t0_6]) := by
        intro t0_6 H locs ls h hP hD hS hl
        unfold f_X5_thruster_j43 at h
        refine lv_istore_n (lv' := [(3, .int t0_6), (0, .ref (aM 0)), (1, .int p0), (2, .int p1)]) hx hb dX5_thruster_43 rfl hl (by decide) rfl (fun ls hl => ?_)
        refine lv_iload_n hx hb dX5_thruster_44 rfl (lv_at hl 3 rfl) ?_
        refine lv_bipush (v := 7) hx hb dX5_thruster_45 (by decide) ?_
        refine lv_icmp_ge (tgt := 59) hx hb dX5_thruster_47 (by decide) (fun c7 => ?_) (fun c7 => ?_)
        · replace h := (if_pos c7).symm.trans h
          refine lv_iload_n hx hb dX5_thruster_59 rfl (lv_at hl 0 rfl) ?_
          refine lv_if_eq (tgt := 67) hx hb dX5_thruster_60 (by decide) (fun c8 => ?_) (fun c8 => ?_)
          · replace h := (if_pos c8).symm.trans h
            refine lv_iconst (v := 0) hx hb dX5_thruster_67 (by decide) ?_
            rw [← Option.some.inj h]
            exact kri hx hb hr hlk rfl rfl hP hD hS hK dX5_thruster_68
          · replace h := (if_neg c8).symm.trans h
            refine lv_iconst (v := 1) hx hb dX5_thruster_63 (by decide) ?_
            refine lv_goto (tgt := 68) hx hb dX5_thruster_64 (by decide) ?_
            rw [← Option.some.inj h]
            exact kri hx hb hr hlk rfl rfl hP hD hS hK dX5_thruster_68
        · replace h := (if_neg c7).symm.trans h
          refine lv_aload_n hx hb dX5_thruster_50 rfl (lv_at hl 1 rfl) ?_
          refine lv_iload_n hx hb dX5_thruster_51 rfl (lv_at hl 2 rfl) ?_
          refine lv_iload_n hx hb dX5_thruster_52 rfl (lv_at hl 3 rfl) ?_
          obtain ⟨q9, hq9, h⟩ := bd_s h
          refine kVi (n := 2) (C := RX5) (ws' := wM cI cJ aM row tot tab goa bes tic txt par sav bwh bpr bse len mat ask hh ++ ([] : va_W)) (As := [.int p0, .int p1]) (rest := []) hx hb hml hown hts (c_X5_of l G cI cJ cZ cO cA e aM _ row tot tab goa bes tic txt par sav bwh bpr bse len mat ask hh p0 p1 hq9) (tb_V kw657 kw659 kv17 kw7 kw660) rfl rfl (by decide +kernel) ⟨Nat.le_of_ble_eq_true rfl, Nat.le_of_ble_eq_true rfl⟩ hK hP hD hS hA hE 0 rfl rfl [0, 1, 2, 3, 4, 5, 6, 7, 8] [] rfl rfl rfl 9 ⟨rfl, rfl⟩ (by decide +kernel) (by decide +kernel) rfl rfl hl.1 (Nat.le_of_ble_eq_true rfl) ⟨Nat.zero_le _, Nat.zero_le _⟩ dX5_thruster_53 (fun H locs hP hD hS => ?_)
          refine lv_goto (tgt := 68) hx hb dX5_thruster_56 (by decide) ?_
          rw [← Option.some.inj h]
          exact kri hx hb hr hlk rfl rfl hP hD hS hK dX5_thruster_68
      refine lv_icmp_ne (tgt := 38) hx hb dX5_thruster_27 (by decide) (fun c5 => ?_) (fun c5 => ?_)
      · replace h := (if_neg c5).symm.trans h
        refine lv_aload_n hx hb dX5_thruster_38 rfl (lv_at hl 0 rfl) ?_
        refine lv_iload_n hx hb dX5_thruster_39 rfl (lv_at hl 1 rfl) ?_
        obtain ⟨q10, hq10, h⟩ := bd_s h
        refine kVi (n := 1) (C := RX5) (ws' := wM cI cJ aM row tot tab goa bes tic txt par sav bwh bpr bse len mat ask hh ++ ([] : va_W)) (As := [.int p0]) (rest := []) hx hb hml hown hts (c_X5_isRunning l G cI cJ cZ cO cA e aM _ row tot tab goa bes tic txt par sav bwh bpr bse len mat ask hh p0 hq10) (tb_V kw677 kw679 kv20 kw7 kw680) rfl rfl (by decide +kernel) ⟨Nat.le_of_ble_eq_true rfl, Nat.le_of_ble_eq_true rfl⟩ hK hP hD hS hA hE 0 rfl rfl [0, 1, 2, 3, 4, 5, 6, 7, 8] [] rfl rfl rfl 9 ⟨rfl, rfl⟩ (by decide +kernel) (by decide +kernel) rfl rfl hl.1 (Nat.le_of_ble_eq_true rfl) ⟨Nat.zero_le _, Nat.zero_le _⟩ dX5_thruster_40 (fun H locs hP hD hS => ?_)
        exact hJ6 q10 _ _ _ h hP hD hS (lv_sub hl [0, 1, 2] rfl)
      · replace h := (if_pos c5).symm.trans h
        refine lv_aload_n hx hb dX5_thruster_30 rfl (lv_at hl 0 rfl) ?_
        refine lv_iload_n hx hb dX5_thruster_31 rfl (lv_at hl 1 rfl) ?_
        obtain ⟨q11, hq11, h⟩ := bd_s h
        refine kVi (n := 1) (C := RX5) (ws' := wM cI cJ aM row tot tab goa bes tic txt par sav bwh bpr bse len mat ask hh ++ ([] : va_W)) (As := [.int p0]) (rest := []) hx hb hml hown hts (c_X5_isUsable l G cI cJ cZ cO cA e aM _ row tot tab goa bes tic txt par sav bwh bpr bse len mat ask hh p0 hq11) (tb_V kw669 kw671 kv18 kw7 kw672) rfl rfl (by decide +kernel) ⟨Nat.le_of_ble_eq_true rfl, Nat.le_of_ble_eq_true rfl⟩ hK hP hD hS hA hE 0 rfl rfl [0, 1, 2, 3, 4, 5, 6, 7, 8] [] rfl rfl rfl 9 ⟨rfl, rfl⟩ (by decide +kernel) (by decide +kernel) rfl rfl hl.1 (Nat.le_of_ble_eq_true rfl) ⟨Nat.zero_le _, Nat.zero_le _⟩ dX5_thruster_32 (fun H locs hP hD hS => ?_)
        refine lv_goto (tgt := 43) hx hb dX5_thruster_35 (by decide) ?_
        exact hJ6 q11 _ _ _ h hP hD hS (lv_sub hl [0, 1, 2] rfl)
    · replace h := (if_pos c4).symm.trans h
      refine lv_ldc (v := (-2000000002)) hx hb hown (hts _ kw639) dX5_thruster_21 ?_
      rw [← Option.some.inj h]
      exact kri hx hb hr hlk rfl rfl hP hD hS hK dX5_thruster_23
  · replace h := (if_pos c2).symm.trans h
    refine lv_ldc (v := (-2000000001)) hx hb hown (hts _ kw638) dX5_thruster_8 ?_
    rw [← Option.some.inj h]
    exact kri hx hb hr hlk rfl rfl hP hD hS hK dX5_thruster_10

/-! X5_unit -/
def f_X5_unit_j24 : Option (Int32) :=
  some (-2000000001)
def f_X5_unit (row : Nat → Int32) (p0 : Int32) (p1 : Int32) : Option (Int32) :=
  (f_X5_isThruster row p0).bind (fun q1 => if q1 = 0 then (f_X5_unit_j24) else ((f_X5_isPart p1).bind (fun q4 => if q4 = 0 then (f_X5_unit_j24) else ((f_X5_unitOf row p0 p1).bind (fun q6 => some q6)))))

set_option maxHeartbeats 4000000 in
set_option maxRecDepth 100000 in
theorem c_X5_unit (l : Launch) (G : va_G) (cI cJ cZ cO cA : ClassId) (e : Nat × Nat) (aM : Nat → Nat) (sz : Nat) (row : Nat → Int32) (tot : Nat → Int64) (tab : Nat → Int64) (goa : Nat → Int64) (bes : Nat → Int64) (tic : Nat → Int64) (txt : Nat → Int32) (par : Nat → Int32) (sav : Int32) (bwh : Int64) (bpr : Int64) (bse : Int32) (len : Int32) (mat : Int32) (ask : Int32) (hh : Int64) (p0 : Int32) (p1 : Int32) {res : Int32} (hf : f_X5_unit row p0 p1 = some res) : MetI l yX5_unit cX5_unit 3 .int ({ frames := 2, cells := 0, slots := 0, locals := 47 } : Room) [.ref (aM 0), .int p0, .int p1] G (ty5 cI cJ cZ cO cA) e (wM cI cJ aM row tot tab goa bes tic txt par sav bwh bpr bse len mat ask hh ++ ([] : va_W)) (wM cI cJ aM row tot tab goa bes tic txt par sav bwh bpr bse len mat ask hh ++ ([] : va_W)) sz res := by
  refine g_body (QQ := fun A => (qI G (ty5 cI cJ cZ cO cA) A (wM cI cJ aM row tot tab goa bes tic txt par sav bwh bpr bse len mat ask hh ++ ([] : va_W)) res)) (own := RX5) (by decide) rfl (Nat.le_of_ble_eq_true rfl) ?_
  intro p ev s m below meth c A ls hx hb hr hml hown hts hlk hA hP hD hS hK hE hl
  have hl : lv_has ls 3 [(0, .ref (aM 0)), (1, .int p0), (2, .int p1)] := hl
  show W p l ev ({ frames := 2, cells := 0, slots := 0, locals := 47 } : Room) s m ([.ref (aM 0), .int p0, .int p1] : List Value).toArray below meth c s.heap [] 0 0 (MQ below (qI G (ty5 cI cJ cZ cO cA) A (wM cI cJ aM row tot tab goa bes tic txt par sav bwh bpr bse len mat ask hh ++ ([] : va_W)) res) ([.ref (aM 0), .int p0, .int p1] : List Value).toArray s 0 0 A) (F0 m 0 ls [])
  have h := hf
  unfold f_X5_unit at h
  refine lv_aload_n hx hb dX5_unit_0 rfl (lv_at hl 0 rfl) ?_
  refine lv_iload_n hx hb dX5_unit_1 rfl (lv_at hl 1 rfl) ?_
  obtain ⟨q1, hq1, h⟩ := bd_s h
  refine kVi (n := 1) (C := RX5) (ws' := wM cI cJ aM row tot tab goa bes tic txt par sav bwh bpr bse len mat ask hh ++ ([] : va_W)) (As := [.int p0]) (rest := []) hx hb hml hown hts (c_X5_isThruster l G cI cJ cZ cO cA e aM _ row tot tab goa bes tic txt par sav bwh bpr bse len mat ask hh p0 hq1) (tb_V kw653 kw655 kv16 kw7 kw656) rfl rfl (by decide +kernel) ⟨Nat.le_of_ble_eq_true rfl, Nat.le_of_ble_eq_true rfl⟩ hK hP hD hS hA hE 0 rfl rfl [0, 1, 2, 3, 4, 5, 6, 7, 8] [] rfl rfl rfl 9 ⟨rfl, rfl⟩ (by decide +kernel) (by decide +kernel) rfl rfl hl.1 (Nat.le_of_ble_eq_true rfl) ⟨Nat.zero_le _, Nat.zero_le _⟩ dX5_unit_2 (fun H locs hP hD hS => ?_)
  have hJ3 : ∀ (H : Heap) (locs : List Loc) (ls : Array Slot), f_X5_unit_j24 = some res → va_P G vwCl (wM cI cJ aM row tot tab goa bes tic txt par sav bwh bpr bse len mat ask hh ++ ([] : va_W)) H → va_D A (wM cI cJ aM row tot tab goa bes tic txt par sav bwh bpr bse len mat ask hh ++ ([] : va_W)) → va_S A s.heap H locs → lv_has ls 3 [] → W p l ev ({ frames := 2, cells := 0, slots := 0, locals := 47 } : Room) s m ([.ref (aM 0), .int p0, .int p1] : List Value).toArray below meth c H locs 0 0 (MQ below (qI G (ty5 cI cJ cZ cO cA) A (wM cI cJ aM row tot tab goa bes tic txt par sav bwh bpr bse len mat ask hh ++ ([] : va_W)) res) ([.ref (aM 0), .int p0, .int p1] : List Value).toArray s 0 0 A) (F0 m 24 ls []) := by
    intro H locs ls h hP hD hS hl
    unfold f_X5_unit_j24 at h
    refine lv_ldc (v := (-2000000001)) hx hb hown (hts _ kw638) dX5_unit_24 ?_
    rw [← Option.some.inj h]
    exact kri hx hb hr hlk rfl rfl hP hD hS hK dX5_unit_26
  refine lv_if_eq (tgt := 24) hx hb dX5_unit_5 (by decide) (fun c2 => ?_) (fun c2 => ?_)
  · replace h := (if_pos c2).symm.trans h
    exact hJ3  _ _ _ h hP hD hS (lv_sub hl [] rfl)
  · replace h := (if_neg c2).symm.trans h
    refine lv_iload_n hx hb dX5_unit_8 rfl (lv_at hl 2 rfl) ?_
    obtain ⟨q4, hq4, h⟩ := bd_s h
    refine kSi (n := 1) (As := [.int p1]) (rest := []) hx hb hml hown hts (c_X5_isPart l G cI cJ cZ cO cA e _ p1 hq4) (tb_S kw685 kw686 kw7 kw687) rfl rfl (by decide +kernel) ⟨Nat.le_of_ble_eq_true rfl, Nat.le_of_ble_eq_true rfl⟩ hK hP hD hS hA hE rfl rfl hl.1 (Nat.le_of_ble_eq_true rfl) ⟨Nat.zero_le _, Nat.zero_le _⟩ dX5_unit_9 (fun H locs hP hD hS => ?_)
    refine lv_if_eq (tgt := 24) hx hb dX5_unit_12 (by decide) (fun c5 => ?_) (fun c5 => ?_)
    · replace h := (if_pos c5).symm.trans h
      exact hJ3  _ _ _ h hP hD hS (lv_sub hl [] rfl)
    · replace h := (if_neg c5).symm.trans h
      refine lv_aload_n hx hb dX5_unit_15 rfl (lv_at hl 0 rfl) ?_
      refine lv_iload_n hx hb dX5_unit_16 rfl (lv_at hl 1 rfl) ?_
      refine lv_iload_n hx hb dX5_unit_17 rfl (lv_at hl 2 rfl) ?_
      obtain ⟨q6, hq6, h⟩ := bd_s h
      refine kVi (n := 2) (C := RX5) (ws' := wM cI cJ aM row tot tab goa bes tic txt par sav bwh bpr bse len mat ask hh ++ ([] : va_W)) (As := [.int p0, .int p1]) (rest := []) hx hb hml hown hts (c_X5_unitOf l G cI cJ cZ cO cA e aM _ row tot tab goa bes tic txt par sav bwh bpr bse len mat ask hh p0 p1 hq6) (tb_V kw688 kw690 kv21 kw7 kw691) rfl rfl (by decide +kernel) ⟨Nat.le_of_ble_eq_true rfl, Nat.le_of_ble_eq_true rfl⟩ hK hP hD hS hA hE 0 rfl rfl [0, 1, 2, 3, 4, 5, 6, 7, 8] [] rfl rfl rfl 9 ⟨rfl, rfl⟩ (by decide +kernel) (by decide +kernel) rfl rfl hl.1 (Nat.le_of_ble_eq_true rfl) ⟨Nat.zero_le _, Nat.zero_le _⟩ dX5_unit_18 (fun H locs hP hD hS => ?_)
      refine lv_goto (tgt := 26) hx hb dX5_unit_21 (by decide) ?_
      rw [← Option.some.inj h]
      exact kri hx hb hr hlk rfl rfl hP hD hS hK dX5_unit_26

/-! X5_lays -/
def f_X5_lays_b2 (row : Nat → Int32) (v1 : Int32) (v2 : Int32) (z1 : (Nat → Int64) × Int32) : Option (((Nat → Int64) × Int32) ⊕ ((Nat → Int64))) :=
  if 3 ≤ z1.2 then (some (Sum.inr z1.1)) else ((f_X5_unitOf row v2 z1.2).bind (fun q3 => gd (ib ((3 * z1.2) + v1) 9) (some (Sum.inl ((vp_updL z1.1 ((3 * z1.2) + v1).toNatClampNeg q3.toInt64), (z1.2 + 1))))))
def f_X5_lays (row : Nat → Int32) (tab : Nat → Int64) (p0 : Int32) (p1 : Int32) : Option ((Nat → Int64)) :=
  (lp (f_X5_lays_b2 row p0 p1) 1000 (tab, 0)).bind (fun q1 => some q1)

set_option maxHeartbeats 4000000 in
set_option maxRecDepth 100000 in
theorem c_X5_lays (l : Launch) (G : va_G) (cI cJ cZ cO cA : ClassId) (e : Nat × Nat) (aM : Nat → Nat) (sz : Nat) (row : Nat → Int32) (tot : Nat → Int64) (tab : Nat → Int64) (goa : Nat → Int64) (bes : Nat → Int64) (tic : Nat → Int64) (txt : Nat → Int32) (par : Nat → Int32) (sav : Int32) (bwh : Int64) (bpr : Int64) (bse : Int32) (len : Int32) (mat : Int32) (ask : Int32) (hh : Int64) (p0 : Int32) (p1 : Int32) {res : (Nat → Int64)} (hf : f_X5_lays row tab p0 p1 = some res) : MetV l yX5_lays cX5_lays 4 ({ frames := 2, cells := 0, slots := 0, locals := 47 } : Room) [.ref (aM 0), .int p0, .int p1] G (ty5 cI cJ cZ cO cA) e (wM cI cJ aM row tot tab goa bes tic txt par sav bwh bpr bse len mat ask hh ++ ([] : va_W)) (wM cI cJ aM row tot res goa bes tic txt par sav bwh bpr bse len mat ask hh ++ ([] : va_W)) sz := by
  refine g_body (QQ := fun A => (qV G (ty5 cI cJ cZ cO cA) A (wM cI cJ aM row tot res goa bes tic txt par sav bwh bpr bse len mat ask hh ++ ([] : va_W)))) (own := RX5) (by decide) rfl (Nat.le_of_ble_eq_true rfl) ?_
  intro p ev s m below meth c A ls hx hb hr hml hown hts hlk hA hP hD hS hK hE hl
  have hl : lv_has ls 4 [(0, .ref (aM 0)), (1, .int p0), (2, .int p1)] := hl
  show W p l ev ({ frames := 2, cells := 0, slots := 0, locals := 47 } : Room) s m ([.ref (aM 0), .int p0, .int p1] : List Value).toArray below meth c s.heap [] 0 0 (MQ below (qV G (ty5 cI cJ cZ cO cA) A (wM cI cJ aM row tot res goa bes tic txt par sav bwh bpr bse len mat ask hh ++ ([] : va_W))) ([.ref (aM 0), .int p0, .int p1] : List Value).toArray s 0 0 A) (F0 m 0 ls [])
  have h := hf
  unfold f_X5_lays at h
  refine lv_iconst (v := 0) hx hb dX5_lays_0 (by decide) ?_
  refine lv_istore_n (lv' := [(3, .int 0), (0, .ref (aM 0)), (1, .int p0), (2, .int p1)]) hx hb dX5_lays_1 rfl hl (by decide) rfl (fun ls hl => ?_)
  obtain ⟨q1, hq1, h⟩ := bd_s h
  have hX1_0 : ∀ (x1 : (Nat → Int64)) (H : Heap) (locs : List Loc) (ls : Array Slot), x1 = q1 → va_P G vwCl (wM cI cJ aM row tot x1 goa bes tic txt par sav bwh bpr bse len mat ask hh ++ ([] : va_W)) H → va_D A (wM cI cJ aM row tot x1 goa bes tic txt par sav bwh bpr bse len mat ask hh ++ ([] : va_W)) → va_S A s.heap H locs → lv_has ls 4 [] → W p l ev ({ frames := 2, cells := 0, slots := 0, locals := 47 } : Room) s m ([.ref (aM 0), .int p0, .int p1] : List Value).toArray below meth c H locs 0 0 (MQ below (qV G (ty5 cI cJ cZ cO cA) A (wM cI cJ aM row tot res goa bes tic txt par sav bwh bpr bse len mat ask hh ++ ([] : va_W))) ([.ref (aM 0), .int p0, .int p1] : List Value).toArray s 0 0 A) (F0 m 30 ls []) := by
    intro x1 H locs ls e1 hP hD hS hl
    replace e1 := e1.symm
    subst e1
    rw [← Option.some.inj h]
    exact krv hx hb hr hlk hP hD hS hK dX5_lays_30
  have hL1 : ∀ (n : Nat) (z1 : (Nat → Int64) × Int32) (H : Heap) (locs : List Loc) (ls : Array Slot), lp (f_X5_lays_b2 row p0 p1) n z1 = some q1 → va_P G vwCl (wM cI cJ aM row tot z1.1 goa bes tic txt par sav bwh bpr bse len mat ask hh ++ ([] : va_W)) H → va_D A (wM cI cJ aM row tot z1.1 goa bes tic txt par sav bwh bpr bse len mat ask hh ++ ([] : va_W)) → va_S A s.heap H locs → lv_has ls 4 [(0, .ref (aM 0)), (1, .int p0), (2, .int p1), (3, .int z1.2)] → W p l ev ({ frames := 2, cells := 0, slots := 0, locals := 47 } : Room) s m ([.ref (aM 0), .int p0, .int p1] : List Value).toArray below meth c H locs 0 0 (MQ below (qV G (ty5 cI cJ cZ cO cA) A (wM cI cJ aM row tot res goa bes tic txt par sav bwh bpr bse len mat ask hh ++ ([] : va_W))) ([.ref (aM 0), .int p0, .int p1] : List Value).toArray s 0 0 A) (F0 m 2 ls []) := by
    intro n
    induction n with
    | zero => intro z1 H locs ls h; cases h
    | succ n ih1 =>
      intro z1 H locs ls h hP hD hS hl
      obtain ⟨o1, h, h1⟩ := lp_s h
      unfold f_X5_lays_b2 at h
      refine lv_iload_n hx hb dX5_lays_2 rfl (lv_at hl 3 rfl) ?_
      refine lv_iconst (v := 3) hx hb dX5_lays_3 (by decide) ?_
      refine lv_icmp_ge (tgt := 30) hx hb dX5_lays_4 (by decide) (fun c2 => ?_) (fun c2 => ?_)
      · replace h := (if_pos c2).symm.trans h
        rw [← Option.some.inj h] at h1
        exact hX1_0 z1.1 _ _ _ (lp_x h1) hP hD hS (lv_sub hl [] rfl)
      · replace h := (if_neg c2).symm.trans h
        refine lv_aload_n hx hb dX5_lays_7 rfl (lv_at hl 0 rfl) ?_
        refine va_get (D := G) (ci := 5) (v := .ref (aM 3)) (C := RX5) (T := TX5) (N := 16) hx hb hts uX5 hown hK hP 0 rfl rfl 3 (by decide) (hts _ kw582) (fun _ h9 => h9) rfl dX5_lays_8 ?_
        refine lv_iconst (v := 3) hx hb dX5_lays_11 (by decide) ?_
        refine lv_iload_n hx hb dX5_lays_12 rfl (lv_at hl 3 rfl) ?_
        refine lv_imul hx hb dX5_lays_13 ?_
        refine lv_iload_n hx hb dX5_lays_14 rfl (lv_at hl 1 rfl) ?_
        refine lv_iadd hx hb dX5_lays_15 ?_
        refine lv_aload_n hx hb dX5_lays_16 rfl (lv_at hl 0 rfl) ?_
        refine lv_iload_n hx hb dX5_lays_17 rfl (lv_at hl 2 rfl) ?_
        refine lv_iload_n hx hb dX5_lays_18 rfl (lv_at hl 3 rfl) ?_
        obtain ⟨q3, hq3, h⟩ := bd_s h
        refine kVi (n := 2) (C := RX5) (ws' := wM cI cJ aM row tot z1.1 goa bes tic txt par sav bwh bpr bse len mat ask hh ++ ([] : va_W)) (As := [.int p1, .int z1.2]) (rest := [.int ((3 * z1.2) + p0), .ref (aM 3)]) hx hb hml hown hts (c_X5_unitOf l G cI cJ cZ cO cA e aM _ row tot z1.1 goa bes tic txt par sav bwh bpr bse len mat ask hh p1 z1.2 hq3) (tb_V kw688 kw690 kv21 kw7 kw691) rfl rfl (by decide +kernel) ⟨Nat.le_of_ble_eq_true rfl, Nat.le_of_ble_eq_true rfl⟩ hK hP hD hS hA hE 0 rfl rfl [0, 1, 2, 3, 4, 5, 6, 7, 8] [] rfl rfl rfl 9 ⟨rfl, rfl⟩ (by decide +kernel) (by decide +kernel) rfl rfl hl.1 (Nat.le_of_ble_eq_true rfl) ⟨Nat.zero_le _, Nat.zero_le _⟩ dX5_lays_19 (fun H locs hP hD hS => ?_)
        refine lv_i2l (v := q3.toInt64) hx hb dX5_lays_22 rfl ?_
        obtain ⟨g4, h⟩ := gd_s h
        refine va_last hx hb hK hP hD hS 3 1 rfl rfl (ib_in g4) dX5_lays_23 (fun H locs hP hD hS => ?_)
        have hP : va_P G vwCl (wM cI cJ aM row tot (vp_updL z1.1 ((3 * z1.2) + p0).toNatClampNeg q3.toInt64) goa bes tic txt par sav bwh bpr bse len mat ask hh ++ ([] : va_W)) H := hP
        have hD : va_D A (wM cI cJ aM row tot (vp_updL z1.1 ((3 * z1.2) + p0).toNatClampNeg q3.toInt64) goa bes tic txt par sav bwh bpr bse len mat ask hh ++ ([] : va_W)) := hD
        refine lv_iinc (v := (z1.2 + 1)) (lv' := [(3, .int (z1.2 + 1)), (0, .ref (aM 0)), (1, .int p0), (2, .int p1)]) hx hb dX5_lays_24 hl (k := 3) rfl rfl (by decide) rfl (fun ls hl => ?_)
        refine lv_goto (tgt := 2) hx hb dX5_lays_27 (by decide) ?_
        rw [← Option.some.inj h] at h1
        exact ih1 ((vp_updL z1.1 ((3 * z1.2) + p0).toNatClampNeg q3.toInt64), (z1.2 + 1)) _ _ _ (lp_b h1) hP hD hS (lv_sub hl [1, 2, 3, 0] rfl)
  exact hL1 _ (tab, 0) _ _ _ hq1 hP hD hS (lv_sub hl [1, 2, 3, 0] rfl)

/-! X5_determined -/
def f_X5_determined_b4 (tab : Nat → Int64) (z1 : Int64 × Int32) : Option ((Int64 × Int32) ⊕ (Int64)) :=
  if 3 ≤ z1.2 then (some (Sum.inr z1.1)) else (gd (ib z1.2 9) (gd (ib (3 + ((z1.2 + 1) - (z1.2 + 1) / 3 * 3)) 9) (gd (ib (6 + ((z1.2 + 2) - (z1.2 + 2) / 3 * 3)) 9) (gd (ib (3 + ((z1.2 + 2) - (z1.2 + 2) / 3 * 3)) 9) (gd (ib (6 + ((z1.2 + 1) - (z1.2 + 1) / 3 * 3)) 9) (some (Sum.inl ((z1.1 + ((tab z1.2.toNatClampNeg) * (((tab (3 + ((z1.2 + 1) - (z1.2 + 1) / 3 * 3)).toNatClampNeg) * (tab (6 + ((z1.2 + 2) - (z1.2 + 2) / 3 * 3)).toNatClampNeg)) - ((tab (3 + ((z1.2 + 2) - (z1.2 + 2) / 3 * 3)).toNatClampNeg) * (tab (6 + ((z1.2 + 1) - (z1.2 + 1) / 3 * 3)).toNatClampNeg))))), (z1.2 + 1)))))))))
def f_X5_determined (tab : Nat → Int64) : Option (Int64) :=
  (lp (f_X5_determined_b4 tab) 1000 (0, 0)).bind (fun q1 => some q1)

set_option maxHeartbeats 4000000 in
set_option maxRecDepth 100000 in
theorem c_X5_determined (l : Launch) (G : va_G) (cI cJ cZ cO cA : ClassId) (e : Nat × Nat) (aM : Nat → Nat) (sz : Nat) (row : Nat → Int32) (tot : Nat → Int64) (tab : Nat → Int64) (goa : Nat → Int64) (bes : Nat → Int64) (tic : Nat → Int64) (txt : Nat → Int32) (par : Nat → Int32) (sav : Int32) (bwh : Int64) (bpr : Int64) (bse : Int32) (len : Int32) (mat : Int32) (ask : Int32) (hh : Int64) {res : Int64} (hf : f_X5_determined tab = some res) : MetL l yX5_determined cX5_determined 4 ({ frames := 0, cells := 0, slots := 0, locals := 0 } : Room) [.ref (aM 0)] G (ty5 cI cJ cZ cO cA) e (wM cI cJ aM row tot tab goa bes tic txt par sav bwh bpr bse len mat ask hh ++ ([] : va_W)) (wM cI cJ aM row tot tab goa bes tic txt par sav bwh bpr bse len mat ask hh ++ ([] : va_W)) sz res := by
  refine g_body (QQ := fun A => (qL G (ty5 cI cJ cZ cO cA) A (wM cI cJ aM row tot tab goa bes tic txt par sav bwh bpr bse len mat ask hh ++ ([] : va_W)) res)) (own := RX5) (by decide) rfl (Nat.le_of_ble_eq_true rfl) ?_
  intro p ev s m below meth c A ls hx hb hr hml hown hts hlk hA hP hD hS hK hE hl
  have hl : lv_has ls 4 [(0, .ref (aM 0))] := hl
  show W p l ev ({ frames := 0, cells := 0, slots := 0, locals := 0 } : Room) s m ([.ref (aM 0)] : List Value).toArray below meth c s.heap [] 0 0 (MQ below (qL G (ty5 cI cJ cZ cO cA) A (wM cI cJ aM row tot tab goa bes tic txt par sav bwh bpr bse len mat ask hh ++ ([] : va_W)) res) ([.ref (aM 0)] : List Value).toArray s 0 0 A) (F0 m 0 ls [])
  have h := hf
  unfold f_X5_determined at h
  refine lv_lconst (v := 0) hx hb dX5_determined_0 (by decide) ?_
  refine lv_lstore_n (lv' := [(1, .long 0), (0, .ref (aM 0))]) hx hb dX5_determined_1 rfl hl (by decide) rfl (fun ls hl => ?_)
  refine lv_iconst (v := 0) hx hb dX5_determined_2 (by decide) ?_
  refine lv_istore_n (lv' := [(3, .int 0), (1, .long 0), (0, .ref (aM 0))]) hx hb dX5_determined_3 rfl hl (by decide) rfl (fun ls hl => ?_)
  obtain ⟨q1, hq1, h⟩ := bd_s h
  have hX1_0 : ∀ (x1 : Int64) (H : Heap) (locs : List Loc) (ls : Array Slot), x1 = q1 → va_P G vwCl (wM cI cJ aM row tot tab goa bes tic txt par sav bwh bpr bse len mat ask hh ++ ([] : va_W)) H → va_D A (wM cI cJ aM row tot tab goa bes tic txt par sav bwh bpr bse len mat ask hh ++ ([] : va_W)) → va_S A s.heap H locs → lv_has ls 4 [(1, .long x1)] → W p l ev ({ frames := 0, cells := 0, slots := 0, locals := 0 } : Room) s m ([.ref (aM 0)] : List Value).toArray below meth c H locs 0 0 (MQ below (qL G (ty5 cI cJ cZ cO cA) A (wM cI cJ aM row tot tab goa bes tic txt par sav bwh bpr bse len mat ask hh ++ ([] : va_W)) res) ([.ref (aM 0)] : List Value).toArray s 0 0 A) (F0 m 78 ls []) := by
    intro x1 H locs ls e1 hP hD hS hl
    replace e1 := e1.symm
    subst e1
    refine lv_lload_n hx hb dX5_determined_78 rfl (lv_at hl 0 rfl) ?_
    rw [← Option.some.inj h]
    exact krl hx hb hr hlk rfl hP hD hS hK dX5_determined_79
  have hL1 : ∀ (n : Nat) (z1 : Int64 × Int32) (H : Heap) (locs : List Loc) (ls : Array Slot), lp (f_X5_determined_b4 tab) n z1 = some q1 → va_P G vwCl (wM cI cJ aM row tot tab goa bes tic txt par sav bwh bpr bse len mat ask hh ++ ([] : va_W)) H → va_D A (wM cI cJ aM row tot tab goa bes tic txt par sav bwh bpr bse len mat ask hh ++ ([] : va_W)) → va_S A s.heap H locs → lv_has ls 4 [(0, .ref (aM 0)), (1, .long z1.1), (3, .int z1.2)] → W p l ev ({ frames := 0, cells := 0, slots := 0, locals := 0 } : Room) s m ([.ref (aM 0)] : List Value).toArray below meth c H locs 0 0 (MQ below (qL G (ty5 cI cJ cZ cO cA) A (wM cI cJ aM row tot tab goa bes tic txt par sav bwh bpr bse len mat ask hh ++ ([] : va_W)) res) ([.ref (aM 0)] : List Value).toArray s 0 0 A) (F0 m 4 ls []) := by
    intro n
    induction n with
    | zero => intro z1 H locs ls h; cases h
    | succ n ih1 =>
      intro z1 H locs ls h hP hD hS hl
      obtain ⟨o1, h, h1⟩ := lp_s h
      unfold f_X5_determined_b4 at h
      refine lv_iload_n hx hb dX5_determined_4 rfl (lv_at hl 2 rfl) ?_
      refine lv_iconst (v := 3) hx hb dX5_determined_5 (by decide) ?_
      refine lv_icmp_ge (tgt := 78) hx hb dX5_determined_6 (by decide) (fun c2 => ?_) (fun c2 => ?_)
      · replace h := (if_pos c2).symm.trans h
        rw [← Option.some.inj h] at h1
        exact hX1_0 z1.1 _ _ _ (lp_x h1) hP hD hS (lv_sub hl [1] rfl)
      · replace h := (if_neg c2).symm.trans h
        refine lv_lload_n hx hb dX5_determined_9 rfl (lv_at hl 1 rfl) ?_
        refine lv_aload_n hx hb dX5_determined_10 rfl (lv_at hl 0 rfl) ?_
        refine va_get (D := G) (ci := 5) (v := .ref (aM 3)) (C := RX5) (T := TX5) (N := 16) hx hb hts uX5 hown hK hP 0 rfl rfl 3 (by decide) (hts _ kw582) (fun _ h9 => h9) rfl dX5_determined_11 ?_
        refine lv_iload_n hx hb dX5_determined_14 rfl (lv_at hl 2 rfl) ?_
        obtain ⟨g3, h⟩ := gd_s h
        refine va_lald hx hb hK hP 3 1 rfl rfl (ib_in g3) dX5_determined_15 ?_
        refine lv_aload_n hx hb dX5_determined_16 rfl (lv_at hl 0 rfl) ?_
        refine va_get (D := G) (ci := 5) (v := .ref (aM 3)) (C := RX5) (T := TX5) (N := 16) hx hb hts uX5 hown hK hP 0 rfl rfl 3 (by decide) (hts _ kw582) (fun _ h9 => h9) rfl dX5_determined_17 ?_
        refine lv_iconst (v := 3) hx hb dX5_determined_20 (by decide) ?_
        refine lv_iload_n hx hb dX5_determined_21 rfl (lv_at hl 2 rfl) ?_
        refine lv_iconst (v := 1) hx hb dX5_determined_22 (by decide) ?_
        refine lv_iadd hx hb dX5_determined_23 ?_
        refine lv_iconst (v := 3) hx hb dX5_determined_24 (by decide) ?_
        refine lv_irem hx hb dX5_determined_25 (by decide) ?_
        refine lv_iadd hx hb dX5_determined_26 ?_
        obtain ⟨g5, h⟩ := gd_s h
        refine va_lald hx hb hK hP 3 1 rfl rfl (ib_in g5) dX5_determined_27 ?_
        refine lv_aload_n hx hb dX5_determined_28 rfl (lv_at hl 0 rfl) ?_
        refine va_get (D := G) (ci := 5) (v := .ref (aM 3)) (C := RX5) (T := TX5) (N := 16) hx hb hts uX5 hown hK hP 0 rfl rfl 3 (by decide) (hts _ kw582) (fun _ h9 => h9) rfl dX5_determined_29 ?_
        refine lv_bipush (v := 6) hx hb dX5_determined_32 (by decide) ?_
        refine lv_iload_n hx hb dX5_determined_34 rfl (lv_at hl 2 rfl) ?_
        refine lv_iconst (v := 2) hx hb dX5_determined_35 (by decide) ?_
        refine lv_iadd hx hb dX5_determined_36 ?_
        refine lv_iconst (v := 3) hx hb dX5_determined_37 (by decide) ?_
        refine lv_irem hx hb dX5_determined_38 (by decide) ?_
        refine lv_iadd hx hb dX5_determined_39 ?_
        obtain ⟨g7, h⟩ := gd_s h
        refine va_lald hx hb hK hP 3 1 rfl rfl (ib_in g7) dX5_determined_40 ?_
        refine lv_lmul hx hb dX5_determined_41 ?_
        refine lv_aload_n hx hb dX5_determined_42 rfl (lv_at hl 0 rfl) ?_
        refine va_get (D := G) (ci := 5) (v := .ref (aM 3)) (C := RX5) (T := TX5) (N := 16) hx hb hts uX5 hown hK hP 0 rfl rfl 3 (by decide) (hts _ kw582) (fun _ h9 => h9) rfl dX5_determined_43 ?_
        refine lv_iconst (v := 3) hx hb dX5_determined_46 (by decide) ?_
        refine lv_iload_n hx hb dX5_determined_47 rfl (lv_at hl 2 rfl) ?_
        refine lv_iconst (v := 2) hx hb dX5_determined_48 (by decide) ?_
        refine lv_iadd hx hb dX5_determined_49 ?_
        refine lv_iconst (v := 3) hx hb dX5_determined_50 (by decide) ?_
        refine lv_irem hx hb dX5_determined_51 (by decide) ?_
        refine lv_iadd hx hb dX5_determined_52 ?_
        obtain ⟨g9, h⟩ := gd_s h
        refine va_lald hx hb hK hP 3 1 rfl rfl (ib_in g9) dX5_determined_53 ?_
        refine lv_aload_n hx hb dX5_determined_54 rfl (lv_at hl 0 rfl) ?_
        refine va_get (D := G) (ci := 5) (v := .ref (aM 3)) (C := RX5) (T := TX5) (N := 16) hx hb hts uX5 hown hK hP 0 rfl rfl 3 (by decide) (hts _ kw582) (fun _ h9 => h9) rfl dX5_determined_55 ?_
        refine lv_bipush (v := 6) hx hb dX5_determined_58 (by decide) ?_
        refine lv_iload_n hx hb dX5_determined_60 rfl (lv_at hl 2 rfl) ?_
        refine lv_iconst (v := 1) hx hb dX5_determined_61 (by decide) ?_
        refine lv_iadd hx hb dX5_determined_62 ?_
        refine lv_iconst (v := 3) hx hb dX5_determined_63 (by decide) ?_
        refine lv_irem hx hb dX5_determined_64 (by decide) ?_
        refine lv_iadd hx hb dX5_determined_65 ?_
        obtain ⟨g11, h⟩ := gd_s h
        refine va_lald hx hb hK hP 3 1 rfl rfl (ib_in g11) dX5_determined_66 ?_
        refine lv_lmul hx hb dX5_determined_67 ?_
        refine lv_lsub hx hb dX5_determined_68 ?_
        refine lv_lmul hx hb dX5_determined_69 ?_
        refine lv_ladd hx hb dX5_determined_70 ?_
        refine lv_lstore_n (lv' := [(1, .long (z1.1 + ((tab z1.2.toNatClampNeg) * (((tab (3 + ((z1.2 + 1) - (z1.2 + 1) / 3 * 3)).toNatClampNeg) * (tab (6 + ((z1.2 + 2) - (z1.2 + 2) / 3 * 3)).toNatClampNeg)) - ((tab (3 + ((z1.2 + 2) - (z1.2 + 2) / 3 * 3)).toNatClampNeg) * (tab (6 + ((z1.2 + 1) - (z1.2 + 1) / 3 * 3)).toNatClampNeg)))))), (0, .ref (aM 0)), (3, .int z1.2)]) hx hb dX5_determined_71 rfl hl (by decide) rfl (fun ls hl => ?_)
        refine lv_iinc (v := (z1.2 + 1)) (lv' := [(3, .int (z1.2 + 1)), (1, .long (z1.1 + ((tab z1.2.toNatClampNeg) * (((tab (3 + ((z1.2 + 1) - (z1.2 + 1) / 3 * 3)).toNatClampNeg) * (tab (6 + ((z1.2 + 2) - (z1.2 + 2) / 3 * 3)).toNatClampNeg)) - ((tab (3 + ((z1.2 + 2) - (z1.2 + 2) / 3 * 3)).toNatClampNeg) * (tab (6 + ((z1.2 + 1) - (z1.2 + 1) / 3 * 3)).toNatClampNeg)))))), (0, .ref (aM 0))]) hx hb dX5_determined_72 hl (k := 2) rfl rfl (by decide) rfl (fun ls hl => ?_)
        refine lv_goto (tgt := 4) hx hb dX5_determined_75 (by decide) ?_
        rw [← Option.some.inj h] at h1
        exact ih1 ((z1.1 + ((tab z1.2.toNatClampNeg) * (((tab (3 + ((z1.2 + 1) - (z1.2 + 1) / 3 * 3)).toNatClampNeg) * (tab (6 + ((z1.2 + 2) - (z1.2 + 2) / 3 * 3)).toNatClampNeg)) - ((tab (3 + ((z1.2 + 2) - (z1.2 + 2) / 3 * 3)).toNatClampNeg) * (tab (6 + ((z1.2 + 1) - (z1.2 + 1) / 3 * 3)).toNatClampNeg))))), (z1.2 + 1)) _ _ _ (lp_b h1) hP hD hS (lv_sub hl [2, 1, 0] rfl)
  exact hL1 _ (0, 0) _ _ _ hq1 hP hD hS (lv_sub hl [2, 1, 0] rfl)

/-! X5_determinant -/
def f_X5_determinant_j24 (tab : Nat → Int64) : Option (Int32 × (Nat → Int64)) :=
  some ((-2000000001), tab)
def f_X5_determinant (row : Nat → Int32) (tab : Nat → Int64) (p0 : Int32) (p1 : Int32) (p2 : Int32) : Option (Int32 × (Nat → Int64)) :=
  (f_X5_isThruster row p0).bind (fun q1 => if q1 = 0 then (f_X5_determinant_j24 tab) else ((f_X5_isThruster row p1).bind (fun q4 => if q4 = 0 then (f_X5_determinant_j24 tab) else ((f_X5_isThruster row p2).bind (fun q6 => if q6 = 0 then (f_X5_determinant_j24 tab) else ((f_X5_lays row tab 0 p0).bind (fun q8 => (f_X5_lays row q8 1 p1).bind (fun q9 => (f_X5_lays row q9 2 p2).bind (fun q10 => (f_X5_determined q10).bind (fun q11 => some (q11.toInt32, q10)))))))))))

set_option maxHeartbeats 4000000 in
set_option maxRecDepth 100000 in
theorem c_X5_determinant (l : Launch) (G : va_G) (cI cJ cZ cO cA : ClassId) (e : Nat × Nat) (aM : Nat → Nat) (sz : Nat) (row : Nat → Int32) (tot : Nat → Int64) (tab : Nat → Int64) (goa : Nat → Int64) (bes : Nat → Int64) (tic : Nat → Int64) (txt : Nat → Int32) (par : Nat → Int32) (sav : Int32) (bwh : Int64) (bpr : Int64) (bse : Int32) (len : Int32) (mat : Int32) (ask : Int32) (hh : Int64) (p0 : Int32) (p1 : Int32) (p2 : Int32) {res : Int32 × (Nat → Int64)} (hf : f_X5_determinant row tab p0 p1 p2 = some res) : MetI l yX5_determinant cX5_determinant 4 .int ({ frames := 3, cells := 0, slots := 0, locals := 70 } : Room) [.ref (aM 0), .int p0, .int p1, .int p2] G (ty5 cI cJ cZ cO cA) e (wM cI cJ aM row tot tab goa bes tic txt par sav bwh bpr bse len mat ask hh ++ ([] : va_W)) (wM cI cJ aM row tot res.2 goa bes tic txt par sav bwh bpr bse len mat ask hh ++ ([] : va_W)) sz res.1 := by
  refine g_body (QQ := fun A => (qI G (ty5 cI cJ cZ cO cA) A (wM cI cJ aM row tot res.2 goa bes tic txt par sav bwh bpr bse len mat ask hh ++ ([] : va_W)) res.1)) (own := RX5) (by decide) rfl (Nat.le_of_ble_eq_true rfl) ?_
  intro p ev s m below meth c A ls hx hb hr hml hown hts hlk hA hP hD hS hK hE hl
  have hl : lv_has ls 4 [(0, .ref (aM 0)), (1, .int p0), (2, .int p1), (3, .int p2)] := hl
  show W p l ev ({ frames := 3, cells := 0, slots := 0, locals := 70 } : Room) s m ([.ref (aM 0), .int p0, .int p1, .int p2] : List Value).toArray below meth c s.heap [] 0 0 (MQ below (qI G (ty5 cI cJ cZ cO cA) A (wM cI cJ aM row tot res.2 goa bes tic txt par sav bwh bpr bse len mat ask hh ++ ([] : va_W)) res.1) ([.ref (aM 0), .int p0, .int p1, .int p2] : List Value).toArray s 0 0 A) (F0 m 0 ls [])
  have h := hf
  unfold f_X5_determinant at h
  refine lv_aload_n hx hb dX5_determinant_0 rfl (lv_at hl 0 rfl) ?_
  refine lv_iload_n hx hb dX5_determinant_1 rfl (lv_at hl 1 rfl) ?_
  obtain ⟨q1, hq1, h⟩ := bd_s h
  refine kVi (n := 1) (C := RX5) (ws' := wM cI cJ aM row tot tab goa bes tic txt par sav bwh bpr bse len mat ask hh ++ ([] : va_W)) (As := [.int p0]) (rest := []) hx hb hml hown hts (c_X5_isThruster l G cI cJ cZ cO cA e aM _ row tot tab goa bes tic txt par sav bwh bpr bse len mat ask hh p0 hq1) (tb_V kw653 kw655 kv16 kw7 kw656) rfl rfl (by decide +kernel) ⟨Nat.le_of_ble_eq_true rfl, Nat.le_of_ble_eq_true rfl⟩ hK hP hD hS hA hE 0 rfl rfl [0, 1, 2, 3, 4, 5, 6, 7, 8] [] rfl rfl rfl 9 ⟨rfl, rfl⟩ (by decide +kernel) (by decide +kernel) rfl rfl hl.1 (Nat.le_of_ble_eq_true rfl) ⟨Nat.zero_le _, Nat.zero_le _⟩ dX5_determinant_2 (fun H locs hP hD hS => ?_)
  have hJ3 : ∀ (tab_3 : Nat → Int64) (H : Heap) (locs : List Loc) (ls : Array Slot), f_X5_determinant_j24 tab_3 = some res → va_P G vwCl (wM cI cJ aM row tot tab_3 goa bes tic txt par sav bwh bpr bse len mat ask hh ++ ([] : va_W)) H → va_D A (wM cI cJ aM row tot tab_3 goa bes tic txt par sav bwh bpr bse len mat ask hh ++ ([] : va_W)) → va_S A s.heap H locs → lv_has ls 4 [] → W p l ev ({ frames := 3, cells := 0, slots := 0, locals := 70 } : Room) s m ([.ref (aM 0), .int p0, .int p1, .int p2] : List Value).toArray below meth c H locs 0 0 (MQ below (qI G (ty5 cI cJ cZ cO cA) A (wM cI cJ aM row tot res.2 goa bes tic txt par sav bwh bpr bse len mat ask hh ++ ([] : va_W)) res.1) ([.ref (aM 0), .int p0, .int p1, .int p2] : List Value).toArray s 0 0 A) (F0 m 24 ls []) := by
    intro tab_3 H locs ls h hP hD hS hl
    unfold f_X5_determinant_j24 at h
    refine lv_ldc (v := (-2000000001)) hx hb hown (hts _ kw638) dX5_determinant_24 ?_
    rw [← Option.some.inj h]
    exact kri hx hb hr hlk rfl rfl hP hD hS hK dX5_determinant_26
  refine lv_if_eq (tgt := 24) hx hb dX5_determinant_5 (by decide) (fun c2 => ?_) (fun c2 => ?_)
  · replace h := (if_pos c2).symm.trans h
    exact hJ3 tab _ _ _ h hP hD hS (lv_sub hl [] rfl)
  · replace h := (if_neg c2).symm.trans h
    refine lv_aload_n hx hb dX5_determinant_8 rfl (lv_at hl 0 rfl) ?_
    refine lv_iload_n hx hb dX5_determinant_9 rfl (lv_at hl 2 rfl) ?_
    obtain ⟨q4, hq4, h⟩ := bd_s h
    refine kVi (n := 1) (C := RX5) (ws' := wM cI cJ aM row tot tab goa bes tic txt par sav bwh bpr bse len mat ask hh ++ ([] : va_W)) (As := [.int p1]) (rest := []) hx hb hml hown hts (c_X5_isThruster l G cI cJ cZ cO cA e aM _ row tot tab goa bes tic txt par sav bwh bpr bse len mat ask hh p1 hq4) (tb_V kw653 kw655 kv16 kw7 kw656) rfl rfl (by decide +kernel) ⟨Nat.le_of_ble_eq_true rfl, Nat.le_of_ble_eq_true rfl⟩ hK hP hD hS hA hE 0 rfl rfl [0, 1, 2, 3, 4, 5, 6, 7, 8] [] rfl rfl rfl 9 ⟨rfl, rfl⟩ (by decide +kernel) (by decide +kernel) rfl rfl hl.1 (Nat.le_of_ble_eq_true rfl) ⟨Nat.zero_le _, Nat.zero_le _⟩ dX5_determinant_10 (fun H locs hP hD hS => ?_)
    refine lv_if_eq (tgt := 24) hx hb dX5_determinant_13 (by decide) (fun c5 => ?_) (fun c5 => ?_)
    · replace h := (if_pos c5).symm.trans h
      exact hJ3 tab _ _ _ h hP hD hS (lv_sub hl [] rfl)
    · replace h := (if_neg c5).symm.trans h
      refine lv_aload_n hx hb dX5_determinant_16 rfl (lv_at hl 0 rfl) ?_
      refine lv_iload_n hx hb dX5_determinant_17 rfl (lv_at hl 3 rfl) ?_
      obtain ⟨q6, hq6, h⟩ := bd_s h
      refine kVi (n := 1) (C := RX5) (ws' := wM cI cJ aM row tot tab goa bes tic txt par sav bwh bpr bse len mat ask hh ++ ([] : va_W)) (As := [.int p2]) (rest := []) hx hb hml hown hts (c_X5_isThruster l G cI cJ cZ cO cA e aM _ row tot tab goa bes tic txt par sav bwh bpr bse len mat ask hh p2 hq6) (tb_V kw653 kw655 kv16 kw7 kw656) rfl rfl (by decide +kernel) ⟨Nat.le_of_ble_eq_true rfl, Nat.le_of_ble_eq_true rfl⟩ hK hP hD hS hA hE 0 rfl rfl [0, 1, 2, 3, 4, 5, 6, 7, 8] [] rfl rfl rfl 9 ⟨rfl, rfl⟩ (by decide +kernel) (by decide +kernel) rfl rfl hl.1 (Nat.le_of_ble_eq_true rfl) ⟨Nat.zero_le _, Nat.zero_le _⟩ dX5_determinant_18 (fun H locs hP hD hS => ?_)
      refine lv_if_ne (tgt := 27) hx hb dX5_determinant_21 (by decide) (fun c7 => ?_) (fun c7 => ?_)
      · replace h := (if_neg c7).symm.trans h
        refine lv_aload_n hx hb dX5_determinant_27 rfl (lv_at hl 0 rfl) ?_
        refine lv_iconst (v := 0) hx hb dX5_determinant_28 (by decide) ?_
        refine lv_iload_n hx hb dX5_determinant_29 rfl (lv_at hl 1 rfl) ?_
        obtain ⟨q8, hq8, h⟩ := bd_s h
        refine kVv (n := 2) (C := RX5) (ws' := wM cI cJ aM row tot q8 goa bes tic txt par sav bwh bpr bse len mat ask hh ++ ([] : va_W)) (As := [.int 0, .int p0]) (rest := []) hx hb hml hown hts (c_X5_lays l G cI cJ cZ cO cA e aM _ row tot tab goa bes tic txt par sav bwh bpr bse len mat ask hh 0 p0 hq8) (tb_V kw696 kw698 kv22 kw7 kw699) rfl rfl (by decide +kernel) ⟨Nat.le_of_ble_eq_true rfl, Nat.le_of_ble_eq_true rfl⟩ hK hP hD hS hA hE 0 rfl rfl [0, 1, 2, 3, 4, 5, 6, 7, 8] [] rfl rfl rfl 9 ⟨rfl, rfl⟩ (by decide +kernel) (by decide +kernel) rfl rfl hl.1 (Nat.le_of_ble_eq_true rfl) ⟨Nat.zero_le _, Nat.zero_le _⟩ dX5_determinant_30 (fun H locs hP hD hS => ?_)
        refine lv_aload_n hx hb dX5_determinant_33 rfl (lv_at hl 0 rfl) ?_
        refine lv_iconst (v := 1) hx hb dX5_determinant_34 (by decide) ?_
        refine lv_iload_n hx hb dX5_determinant_35 rfl (lv_at hl 2 rfl) ?_
        obtain ⟨q9, hq9, h⟩ := bd_s h
        refine kVv (n := 2) (C := RX5) (ws' := wM cI cJ aM row tot q9 goa bes tic txt par sav bwh bpr bse len mat ask hh ++ ([] : va_W)) (As := [.int 1, .int p1]) (rest := []) hx hb hml hown hts (c_X5_lays l G cI cJ cZ cO cA e aM _ row tot q8 goa bes tic txt par sav bwh bpr bse len mat ask hh 1 p1 hq9) (tb_V kw696 kw698 kv22 kw7 kw699) rfl rfl (by decide +kernel) ⟨Nat.le_of_ble_eq_true rfl, Nat.le_of_ble_eq_true rfl⟩ hK hP hD hS hA hE 0 rfl rfl [0, 1, 2, 3, 4, 5, 6, 7, 8] [] rfl rfl rfl 9 ⟨rfl, rfl⟩ (by decide +kernel) (by decide +kernel) rfl rfl hl.1 (Nat.le_of_ble_eq_true rfl) ⟨Nat.zero_le _, Nat.zero_le _⟩ dX5_determinant_36 (fun H locs hP hD hS => ?_)
        refine lv_aload_n hx hb dX5_determinant_39 rfl (lv_at hl 0 rfl) ?_
        refine lv_iconst (v := 2) hx hb dX5_determinant_40 (by decide) ?_
        refine lv_iload_n hx hb dX5_determinant_41 rfl (lv_at hl 3 rfl) ?_
        obtain ⟨q10, hq10, h⟩ := bd_s h
        refine kVv (n := 2) (C := RX5) (ws' := wM cI cJ aM row tot q10 goa bes tic txt par sav bwh bpr bse len mat ask hh ++ ([] : va_W)) (As := [.int 2, .int p2]) (rest := []) hx hb hml hown hts (c_X5_lays l G cI cJ cZ cO cA e aM _ row tot q9 goa bes tic txt par sav bwh bpr bse len mat ask hh 2 p2 hq10) (tb_V kw696 kw698 kv22 kw7 kw699) rfl rfl (by decide +kernel) ⟨Nat.le_of_ble_eq_true rfl, Nat.le_of_ble_eq_true rfl⟩ hK hP hD hS hA hE 0 rfl rfl [0, 1, 2, 3, 4, 5, 6, 7, 8] [] rfl rfl rfl 9 ⟨rfl, rfl⟩ (by decide +kernel) (by decide +kernel) rfl rfl hl.1 (Nat.le_of_ble_eq_true rfl) ⟨Nat.zero_le _, Nat.zero_le _⟩ dX5_determinant_42 (fun H locs hP hD hS => ?_)
        refine lv_aload_n hx hb dX5_determinant_45 rfl (lv_at hl 0 rfl) ?_
        obtain ⟨q11, hq11, h⟩ := bd_s h
        refine kVl (n := 0) (C := RX5) (ws' := wM cI cJ aM row tot q10 goa bes tic txt par sav bwh bpr bse len mat ask hh ++ ([] : va_W)) (As := []) (rest := []) hx hb hml hown hts (c_X5_determined l G cI cJ cZ cO cA e aM _ row tot q10 goa bes tic txt par sav bwh bpr bse len mat ask hh hq11) (tb_V kw700 kw702 kv23 kw7 kw703) rfl rfl (by decide +kernel) ⟨Nat.le_of_ble_eq_true rfl, Nat.le_of_ble_eq_true rfl⟩ hK hP hD hS hA hE 0 rfl rfl [0, 1, 2, 3, 4, 5, 6, 7, 8] [] rfl rfl rfl 9 ⟨rfl, rfl⟩ (by decide +kernel) (by decide +kernel) rfl rfl hl.1 (Nat.le_of_ble_eq_true rfl) ⟨Nat.zero_le _, Nat.zero_le _⟩ dX5_determinant_46 (fun H locs hP hD hS => ?_)
        refine lv_l2i (v := q11.toInt32) hx hb dX5_determinant_49 rfl ?_
        rw [← Option.some.inj h]
        exact kri hx hb hr hlk rfl rfl hP hD hS hK dX5_determinant_50
      · replace h := (if_pos c7).symm.trans h
        exact hJ3 tab _ _ _ h hP hD hS (lv_sub hl [] rfl)

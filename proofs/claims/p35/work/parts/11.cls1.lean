/-! X1_readThrusters -/
def f_X1_readThrusters_b31 (pr : Nat → Int32) (v2 : Int32) (z6 : (Nat → Nat → Int32) × Int32) : Option (((Nat → Nat → Int32) × Int32) ⊕ ((Nat → Nat → Int32))) :=
  if 3 ≤ z6.2 then (some (Sum.inr z6.1)) else (gd (ib v2 9) ((f_X2_unitPart pr v2 z6.2).bind (fun q9 => gd (ib z6.2 3) (some (Sum.inl ((updR z6.1 v2.toNatClampNeg (upd (z6.1 v2.toNatClampNeg) z6.2.toNatClampNeg q9)), (z6.2 + 1)))))))
def f_X1_readThrusters_b10 (pr : Nat → Int32) (ta : Nat → Int32) (tc : Int32) (z2 : (Nat → Nat → Int32) × (Nat → Int32) × Int32) : Option (((Nat → Nat → Int32) × (Nat → Int32) × Int32) ⊕ ((Nat → Nat → Int32) × (Nat → Int32))) :=
  if tc ≤ z2.2.2 then (some (Sum.inr (z2.1, z2.2.1))) else ((f_X2_priceOfTick pr ta z2.2.2).bind (fun q4 => gd (ib z2.2.2 8) ((lp (f_X1_readThrusters_b31 pr z2.2.2) 1000 (z2.1, 0)).bind (fun q6 => some (Sum.inl (q6, (upd z2.2.1 z2.2.2.toNatClampNeg q4), (z2.2.2 + 1)))))))
def f_X1_readThrusters (pr : Nat → Int32) (ta : Nat → Int32) (tc : Int32) (un : Nat → Nat → Int32) (tp : Nat → Int32) (ru : Int32) : Option ((Nat → Nat → Int32) × (Nat → Int32) × Int32) :=
  (f_X2_runningMask pr ta tc).bind (fun q1 => (lp (f_X1_readThrusters_b10 pr ta tc) 1000 (un, tp, 0)).bind (fun q2 => some (q2.1, q2.2, q1)))

set_option maxHeartbeats 4000000 in
set_option maxRecDepth 100000 in
theorem c_X1_readThrusters (l : Launch) (G : va_G) (cI cJ cZ cO cA : ClassId) (e : Nat × Nat) (aE : Nat → Nat) (aR : Nat → Nat) (aS : Nat → Nat) (sz : Nat) (un : Nat → Nat → Int32) (tp : Nat → Int32) (sh : Nat → Int64) (de : Int64) (co : Int64) (ma : Int32) (ru : Int32) (fo : Int32) (pr : Nat → Int32) (pu : Nat → Int32) (ta : Nat → Int32) (se : Nat → Int32) (qu : Nat → Int32) (im : Nat → Int32) (su : Nat → Int64) (tc : Int32) (sc : Int32) (rc : Int32) (cn : Int32) (so : Int32) {res : (Nat → Nat → Int32) × (Nat → Int32) × Int32} (hf : f_X1_readThrusters pr ta tc un tp ru = some res) : MetV l yX1_readThrusters cX1_readThrusters 4 ({ frames := 4, cells := 0, slots := 0, locals := 86 } : Room) [.ref (aE 0), .ref (aS 0)] G (ty5 cI cJ cZ cO cA) e (wE cI cJ cA aE aR un tp sh de co ma ru fo ++ (wS cI cJ aS pr pu ta se qu im su tc sc rc cn so ++ ([] : va_W))) (wE cI cJ cA aE aR res.1 res.2.1 sh de co ma res.2.2 fo ++ (wS cI cJ aS pr pu ta se qu im su tc sc rc cn so ++ ([] : va_W))) sz := by
  refine g_body (QQ := fun A => (qV G (ty5 cI cJ cZ cO cA) A (wE cI cJ cA aE aR res.1 res.2.1 sh de co ma res.2.2 fo ++ (wS cI cJ aS pr pu ta se qu im su tc sc rc cn so ++ ([] : va_W))))) (own := RX1) (by decide) rfl (Nat.le_of_ble_eq_true rfl) ?_
  intro p ev s m below meth c A ls hx hb hr hml hown hts hlk hA hP hD hS hK hE hl
  have hl : lv_has ls 4 [(0, .ref (aE 0)), (1, .ref (aS 0))] := hl
  show W p l ev ({ frames := 4, cells := 0, slots := 0, locals := 86 } : Room) s m ([.ref (aE 0), .ref (aS 0)] : List Value).toArray below meth c s.heap [] 0 0 (MQ below (qV G (ty5 cI cJ cZ cO cA) A (wE cI cJ cA aE aR res.1 res.2.1 sh de co ma res.2.2 fo ++ (wS cI cJ aS pr pu ta se qu im su tc sc rc cn so ++ ([] : va_W)))) ([.ref (aE 0), .ref (aS 0)] : List Value).toArray s 0 0 A) (F0 m 0 ls [])
  have h := hf
  unfold f_X1_readThrusters at h
  refine lv_aload_n hx hb dX1_readThrusters_0 rfl (lv_at hl 0 rfl) ?_
  refine lv_aload_n hx hb dX1_readThrusters_1 rfl (lv_at hl 1 rfl) ?_
  obtain ⟨q1, hq1, h⟩ := bd_s h
  refine kVi (n := 0) (C := RX2) (ws' := wE cI cJ cA aE aR un tp sh de co ma ru fo ++ (wS cI cJ aS pr pu ta se qu im su tc sc rc cn so ++ ([] : va_W))) (As := []) (rest := [.ref (aE 0)]) hx hb hml hown hts (c_X2_runningMask l G cI cJ cZ cO cA e aS _ pr pu ta se qu im su tc sc rc cn so hq1) (tb_V kw229 kw230 kw231 kw2 kw232) rfl rfl (by decide +kernel) ⟨Nat.le_of_ble_eq_true rfl, Nat.le_of_ble_eq_true rfl⟩ hK hP hD hS hA hE 13 rfl rfl [13, 14, 15, 16, 17, 18, 19, 20] [0, 1, 2, 3, 4, 5, 6, 7, 8, 9, 10, 11, 12] rfl rfl rfl 21 ⟨rfl, rfl⟩ (by decide +kernel) (by decide +kernel) rfl rfl hl.1 (Nat.le_of_ble_eq_true rfl) ⟨Nat.zero_le _, Nat.zero_le _⟩ dX1_readThrusters_2 (fun H locs hP hD hS => ?_)
  refine va_put (D := G) (ci := 1) (ty := .int) (v := .int q1) (C := RX1) (T := TX1) (N := 8) hx hb hts uX1 tyX1 tyX1_ok nmX1 hown hK hP hD hS 0 rfl rfl 6 (by decide) (hts _ kw112) (fun _ h9 => h9) rfl (by decide +kernel) rfl rfl (Nat.le_of_ble_eq_true rfl) dX1_readThrusters_5 (fun H locs hP hD hS => ?_)
  have hP : va_P G vwCl (wE cI cJ cA aE aR un tp sh de co ma q1 fo ++ (wS cI cJ aS pr pu ta se qu im su tc sc rc cn so ++ ([] : va_W))) H := hP
  have hD : va_D A (wE cI cJ cA aE aR un tp sh de co ma q1 fo ++ (wS cI cJ aS pr pu ta se qu im su tc sc rc cn so ++ ([] : va_W))) := hD
  refine lv_iconst (v := 0) hx hb dX1_readThrusters_8 (by decide) ?_
  refine lv_istore_n (lv' := [(2, .int 0), (0, .ref (aE 0)), (1, .ref (aS 0))]) hx hb dX1_readThrusters_9 rfl hl (by decide) rfl (fun ls hl => ?_)
  obtain ⟨q2, hq2, h⟩ := bd_s h
  have hX2_0 : ∀ (x2 : (Nat → Nat → Int32) × (Nat → Int32)) (H : Heap) (locs : List Loc) (ls : Array Slot), x2 = q2 → va_P G vwCl (wE cI cJ cA aE aR x2.1 x2.2 sh de co ma q1 fo ++ (wS cI cJ aS pr pu ta se qu im su tc sc rc cn so ++ ([] : va_W))) H → va_D A (wE cI cJ cA aE aR x2.1 x2.2 sh de co ma q1 fo ++ (wS cI cJ aS pr pu ta se qu im su tc sc rc cn so ++ ([] : va_W))) → va_S A s.heap H locs → lv_has ls 4 [] → W p l ev ({ frames := 4, cells := 0, slots := 0, locals := 86 } : Room) s m ([.ref (aE 0), .ref (aS 0)] : List Value).toArray below meth c H locs 0 0 (MQ below (qV G (ty5 cI cJ cZ cO cA) A (wE cI cJ cA aE aR res.1 res.2.1 sh de co ma res.2.2 fo ++ (wS cI cJ aS pr pu ta se qu im su tc sc rc cn so ++ ([] : va_W)))) ([.ref (aE 0), .ref (aS 0)] : List Value).toArray s 0 0 A) (F0 m 62 ls []) := by
    intro x2 H locs ls e2 hP hD hS hl
    replace e2 := e2.symm
    subst e2
    rw [← Option.some.inj h]
    exact krv hx hb hr hlk hP hD hS hK dX1_readThrusters_62
  have hL2 : ∀ (n : Nat) (z2 : (Nat → Nat → Int32) × (Nat → Int32) × Int32) (H : Heap) (locs : List Loc) (ls : Array Slot), lp (f_X1_readThrusters_b10 pr ta tc) n z2 = some q2 → va_P G vwCl (wE cI cJ cA aE aR z2.1 z2.2.1 sh de co ma q1 fo ++ (wS cI cJ aS pr pu ta se qu im su tc sc rc cn so ++ ([] : va_W))) H → va_D A (wE cI cJ cA aE aR z2.1 z2.2.1 sh de co ma q1 fo ++ (wS cI cJ aS pr pu ta se qu im su tc sc rc cn so ++ ([] : va_W))) → va_S A s.heap H locs → lv_has ls 4 [(0, .ref (aE 0)), (1, .ref (aS 0)), (2, .int z2.2.2)] → W p l ev ({ frames := 4, cells := 0, slots := 0, locals := 86 } : Room) s m ([.ref (aE 0), .ref (aS 0)] : List Value).toArray below meth c H locs 0 0 (MQ below (qV G (ty5 cI cJ cZ cO cA) A (wE cI cJ cA aE aR res.1 res.2.1 sh de co ma res.2.2 fo ++ (wS cI cJ aS pr pu ta se qu im su tc sc rc cn so ++ ([] : va_W)))) ([.ref (aE 0), .ref (aS 0)] : List Value).toArray s 0 0 A) (F0 m 10 ls []) := by
    intro n
    induction n with
    | zero => intro z2 H locs ls h; cases h
    | succ n ih2 =>
      intro z2 H locs ls h hP hD hS hl
      obtain ⟨o2, h, h2⟩ := lp_s h
      unfold f_X1_readThrusters_b10 at h
      refine lv_iload_n hx hb dX1_readThrusters_10 rfl (lv_at hl 2 rfl) ?_
      refine lv_aload_n hx hb dX1_readThrusters_11 rfl (lv_at hl 1 rfl) ?_
      refine va_getN (D := G) (ci := 2) (v := .int tc) (C := RX2) (T := TX2) (N := 12) hx hb hts uX2 hown hK hP 13 rfl rfl 7 (by decide) (hE.nw nk40) (fun _ h9 => h9) rfl dX1_readThrusters_12 ?_
      refine lv_icmp_ge (tgt := 62) hx hb dX1_readThrusters_15 (by decide) (fun c3 => ?_) (fun c3 => ?_)
      · replace h := (if_pos c3).symm.trans h
        rw [← Option.some.inj h] at h2
        exact hX2_0 (z2.1, z2.2.1) _ _ _ (lp_x h2) hP hD hS (lv_sub hl [] rfl)
      · replace h := (if_neg c3).symm.trans h
        refine lv_aload_n hx hb dX1_readThrusters_18 rfl (lv_at hl 0 rfl) ?_
        refine va_get (D := G) (ci := 1) (v := .ref (aE 2)) (C := RX1) (T := TX1) (N := 8) hx hb hts uX1 hown hK hP 0 rfl rfl 1 (by decide) (hts _ kw106) (fun _ h9 => h9) rfl dX1_readThrusters_19 ?_
        refine lv_iload_n hx hb dX1_readThrusters_22 rfl (lv_at hl 2 rfl) ?_
        refine lv_aload_n hx hb dX1_readThrusters_23 rfl (lv_at hl 1 rfl) ?_
        refine lv_iload_n hx hb dX1_readThrusters_24 rfl (lv_at hl 2 rfl) ?_
        obtain ⟨q4, hq4, h⟩ := bd_s h
        refine kVi (n := 1) (C := RX2) (ws' := wE cI cJ cA aE aR z2.1 z2.2.1 sh de co ma q1 fo ++ (wS cI cJ aS pr pu ta se qu im su tc sc rc cn so ++ ([] : va_W))) (As := [.int z2.2.2]) (rest := [.int z2.2.2, .ref (aE 2)]) hx hb hml hown hts (c_X2_priceOfTick l G cI cJ cZ cO cA e aS _ pr pu ta se qu im su tc sc rc cn so z2.2.2 hq4) (tb_V kw245 kw246 kw247 kw2 kw248) rfl rfl (by decide +kernel) ⟨Nat.le_of_ble_eq_true rfl, Nat.le_of_ble_eq_true rfl⟩ hK hP hD hS hA hE 13 rfl rfl [13, 14, 15, 16, 17, 18, 19, 20] [0, 1, 2, 3, 4, 5, 6, 7, 8, 9, 10, 11, 12] rfl rfl rfl 21 ⟨rfl, rfl⟩ (by decide +kernel) (by decide +kernel) rfl rfl hl.1 (Nat.le_of_ble_eq_true rfl) ⟨Nat.zero_le _, Nat.zero_le _⟩ dX1_readThrusters_25 (fun H locs hP hD hS => ?_)
        obtain ⟨g5, h⟩ := gd_s h
        refine va_iast hx hb hK hP hD hS 2 0 rfl rfl (ib_in g5) dX1_readThrusters_28 (fun H locs hP hD hS => ?_)
        have hP : va_P G vwCl (wE cI cJ cA aE aR z2.1 (upd z2.2.1 z2.2.2.toNatClampNeg q4) sh de co ma q1 fo ++ (wS cI cJ aS pr pu ta se qu im su tc sc rc cn so ++ ([] : va_W))) H := hP
        have hD : va_D A (wE cI cJ cA aE aR z2.1 (upd z2.2.1 z2.2.2.toNatClampNeg q4) sh de co ma q1 fo ++ (wS cI cJ aS pr pu ta se qu im su tc sc rc cn so ++ ([] : va_W))) := hD
        refine lv_iconst (v := 0) hx hb dX1_readThrusters_29 (by decide) ?_
        refine lv_istore_n (lv' := [(3, .int 0), (0, .ref (aE 0)), (1, .ref (aS 0)), (2, .int z2.2.2)]) hx hb dX1_readThrusters_30 rfl hl (by decide) rfl (fun ls hl => ?_)
        obtain ⟨q6, hq6, h⟩ := bd_s h
        have hX6_0 : ∀ (x6 : (Nat → Nat → Int32)) (H : Heap) (locs : List Loc) (ls : Array Slot), x6 = q6 → va_P G vwCl (wE cI cJ cA aE aR x6 (upd z2.2.1 z2.2.2.toNatClampNeg q4) sh de co ma q1 fo ++ (wS cI cJ aS pr pu ta se qu im su tc sc rc cn so ++ ([] : va_W))) H → va_D A (wE cI cJ cA aE aR x6 (upd z2.2.1 z2.2.2.toNatClampNeg q4) sh de co ma q1 fo ++ (wS cI cJ aS pr pu ta se qu im su tc sc rc cn so ++ ([] : va_W))) → va_S A s.heap H locs → lv_has ls 4 [(0, .ref (aE 0)), (1, .ref (aS 0)), (2, .int z2.2.2)] → W p l ev ({ frames := 4, cells := 0, slots := 0, locals := 86 } : Room) s m ([.ref (aE 0), .ref (aS 0)] : List Value).toArray below meth c H locs 0 0 (MQ below (qV G (ty5 cI cJ cZ cO cA) A (wE cI cJ cA aE aR res.1 res.2.1 sh de co ma res.2.2 fo ++ (wS cI cJ aS pr pu ta se qu im su tc sc rc cn so ++ ([] : va_W)))) ([.ref (aE 0), .ref (aS 0)] : List Value).toArray s 0 0 A) (F0 m 56 ls []) := by
          intro x6 H locs ls e6 hP hD hS hl
          replace e6 := e6.symm
          subst e6
          refine lv_iinc (v := (z2.2.2 + 1)) (lv' := [(2, .int (z2.2.2 + 1)), (0, .ref (aE 0)), (1, .ref (aS 0))]) hx hb dX1_readThrusters_56 hl (k := 2) rfl rfl (by decide) rfl (fun ls hl => ?_)
          refine lv_goto (tgt := 10) hx hb dX1_readThrusters_59 (by decide) ?_
          rw [← Option.some.inj h] at h2
          exact ih2 (q6, (upd z2.2.1 z2.2.2.toNatClampNeg q4), (z2.2.2 + 1)) _ _ _ (lp_b h2) hP hD hS (lv_sub hl [1, 2, 0] rfl)
        have hL6 : ∀ (n : Nat) (z6 : (Nat → Nat → Int32) × Int32) (H : Heap) (locs : List Loc) (ls : Array Slot), lp (f_X1_readThrusters_b31 pr z2.2.2) n z6 = some q6 → va_P G vwCl (wE cI cJ cA aE aR z6.1 (upd z2.2.1 z2.2.2.toNatClampNeg q4) sh de co ma q1 fo ++ (wS cI cJ aS pr pu ta se qu im su tc sc rc cn so ++ ([] : va_W))) H → va_D A (wE cI cJ cA aE aR z6.1 (upd z2.2.1 z2.2.2.toNatClampNeg q4) sh de co ma q1 fo ++ (wS cI cJ aS pr pu ta se qu im su tc sc rc cn so ++ ([] : va_W))) → va_S A s.heap H locs → lv_has ls 4 [(0, .ref (aE 0)), (1, .ref (aS 0)), (2, .int z2.2.2), (3, .int z6.2)] → W p l ev ({ frames := 4, cells := 0, slots := 0, locals := 86 } : Room) s m ([.ref (aE 0), .ref (aS 0)] : List Value).toArray below meth c H locs 0 0 (MQ below (qV G (ty5 cI cJ cZ cO cA) A (wE cI cJ cA aE aR res.1 res.2.1 sh de co ma res.2.2 fo ++ (wS cI cJ aS pr pu ta se qu im su tc sc rc cn so ++ ([] : va_W)))) ([.ref (aE 0), .ref (aS 0)] : List Value).toArray s 0 0 A) (F0 m 31 ls []) := by
          intro n
          induction n with
          | zero => intro z6 H locs ls h; cases h
          | succ n ih6 =>
            intro z6 H locs ls h hP hD hS hl
            obtain ⟨o6, h, h6⟩ := lp_s h
            unfold f_X1_readThrusters_b31 at h
            refine lv_iload_n hx hb dX1_readThrusters_31 rfl (lv_at hl 3 rfl) ?_
            refine lv_iconst (v := 3) hx hb dX1_readThrusters_32 (by decide) ?_
            refine lv_icmp_ge (tgt := 56) hx hb dX1_readThrusters_33 (by decide) (fun c7 => ?_) (fun c7 => ?_)
            · replace h := (if_pos c7).symm.trans h
              rw [← Option.some.inj h] at h6
              exact hX6_0 z6.1 _ _ _ (lp_x h6) hP hD hS (lv_sub hl [0, 1, 2] rfl)
            · replace h := (if_neg c7).symm.trans h
              refine lv_aload_n hx hb dX1_readThrusters_36 rfl (lv_at hl 0 rfl) ?_
              refine va_get (D := G) (ci := 1) (v := .ref (aE 1)) (C := RX1) (T := TX1) (N := 8) hx hb hts uX1 hown hK hP 0 rfl rfl 0 (by decide) (hts _ kw105) (fun _ h9 => h9) rfl dX1_readThrusters_37 ?_
              refine lv_iload_n hx hb dX1_readThrusters_40 rfl (lv_at hl 2 rfl) ?_
              obtain ⟨g8, h⟩ := gd_s h
              have k8 := ib_lt g8
              refine kald hx hb hK hP 1 4 rfl rfl rfl (ib_in g8) (rwF_at k8) dX1_readThrusters_41 ?_
              refine lv_iload_n hx hb dX1_readThrusters_42 rfl (lv_at hl 3 rfl) ?_
              refine lv_aload_n hx hb dX1_readThrusters_43 rfl (lv_at hl 1 rfl) ?_
              refine lv_iload_n hx hb dX1_readThrusters_44 rfl (lv_at hl 2 rfl) ?_
              refine lv_iload_n hx hb dX1_readThrusters_45 rfl (lv_at hl 3 rfl) ?_
              obtain ⟨q9, hq9, h⟩ := bd_s h
              refine kVi (n := 2) (C := RX2) (ws' := wE cI cJ cA aE aR z6.1 (upd z2.2.1 z2.2.2.toNatClampNeg q4) sh de co ma q1 fo ++ (wS cI cJ aS pr pu ta se qu im su tc sc rc cn so ++ ([] : va_W))) (As := [.int z2.2.2, .int z6.2]) (rest := [.int z6.2, .ref (aR z2.2.2.toNatClampNeg)]) hx hb hml hown hts (c_X2_unitPart l G cI cJ cZ cO cA e aS _ pr pu ta se qu im su tc sc rc cn so z2.2.2 z6.2 hq9) (tb_V kw249 kw250 kw251 kw2 kw252) rfl rfl (by decide +kernel) ⟨Nat.le_of_ble_eq_true rfl, Nat.le_of_ble_eq_true rfl⟩ hK hP hD hS hA hE 13 rfl rfl [13, 14, 15, 16, 17, 18, 19, 20] [0, 1, 2, 3, 4, 5, 6, 7, 8, 9, 10, 11, 12] rfl rfl rfl 21 ⟨rfl, rfl⟩ (by decide +kernel) (by decide +kernel) rfl rfl hl.1 (Nat.le_of_ble_eq_true rfl) ⟨Nat.zero_le _, Nat.zero_le _⟩ dX1_readThrusters_46 (fun H locs hP hD hS => ?_)
              obtain ⟨g10, h⟩ := gd_s h
              refine va_iast hx hb hK hP hD hS (4 + z2.2.2.toNatClampNeg) 0 (wE_row k8) rfl (ib_in g10) dX1_readThrusters_49 (fun H locs hP hD hS => ?_)
              rw [wE_set k8] at hP hD
              have hP : va_P G vwCl (wE cI cJ cA aE aR (updR z6.1 z2.2.2.toNatClampNeg (upd (z6.1 z2.2.2.toNatClampNeg) z6.2.toNatClampNeg q9)) (upd z2.2.1 z2.2.2.toNatClampNeg q4) sh de co ma q1 fo ++ (wS cI cJ aS pr pu ta se qu im su tc sc rc cn so ++ ([] : va_W))) H := hP
              have hD : va_D A (wE cI cJ cA aE aR (updR z6.1 z2.2.2.toNatClampNeg (upd (z6.1 z2.2.2.toNatClampNeg) z6.2.toNatClampNeg q9)) (upd z2.2.1 z2.2.2.toNatClampNeg q4) sh de co ma q1 fo ++ (wS cI cJ aS pr pu ta se qu im su tc sc rc cn so ++ ([] : va_W))) := hD
              refine lv_iinc (v := (z6.2 + 1)) (lv' := [(3, .int (z6.2 + 1)), (0, .ref (aE 0)), (1, .ref (aS 0)), (2, .int z2.2.2)]) hx hb dX1_readThrusters_50 hl (k := 3) rfl rfl (by decide) rfl (fun ls hl => ?_)
              refine lv_goto (tgt := 31) hx hb dX1_readThrusters_53 (by decide) ?_
              rw [← Option.some.inj h] at h6
              exact ih6 ((updR z6.1 z2.2.2.toNatClampNeg (upd (z6.1 z2.2.2.toNatClampNeg) z6.2.toNatClampNeg q9)), (z6.2 + 1)) _ _ _ (lp_b h6) hP hD hS (lv_sub hl [1, 2, 3, 0] rfl)
        exact hL6 _ (z2.1, 0) _ _ _ hq6 hP hD hS (lv_sub hl [1, 2, 3, 0] rfl)
  exact hL2 _ (un, tp, 0) _ _ _ hq2 hP hD hS (lv_sub hl [1, 2, 0] rfl)

/-! X1_determinantOf -/
def f_X1_determinantOf (un : Nat → Nat → Int32) (p0 : Int32) (p1 : Int32) (p2 : Int32) : Option (Int64) :=
  gd (ib p0 9) (gd (ib p1 9) (gd (ib p2 9) (gd (ib 1 3) (gd (ib 2 3) (gd (ib 2 3) (gd (ib 1 3) (gd (ib 0 3) (gd (ib 2 3) (gd (ib 2 3) (gd (ib 0 3) (gd (ib 0 3) (gd (ib 1 3) (gd (ib 1 3) (gd (ib 0 3) (gd (ib 0 3) (gd (ib 1 3) (gd (ib 2 3) (some (((((un p0.toNatClampNeg (0 : Int32).toNatClampNeg).toInt64) * ((((un p1.toNatClampNeg (1 : Int32).toNatClampNeg).toInt64) * ((un p2.toNatClampNeg (2 : Int32).toNatClampNeg).toInt64)) - (((un p1.toNatClampNeg (2 : Int32).toNatClampNeg).toInt64) * ((un p2.toNatClampNeg (1 : Int32).toNatClampNeg).toInt64)))) - (((un p0.toNatClampNeg (1 : Int32).toNatClampNeg).toInt64) * ((((un p1.toNatClampNeg (0 : Int32).toNatClampNeg).toInt64) * ((un p2.toNatClampNeg (2 : Int32).toNatClampNeg).toInt64)) - (((un p1.toNatClampNeg (2 : Int32).toNatClampNeg).toInt64) * ((un p2.toNatClampNeg (0 : Int32).toNatClampNeg).toInt64))))) + (((un p0.toNatClampNeg (2 : Int32).toNatClampNeg).toInt64) * ((((un p1.toNatClampNeg (0 : Int32).toNatClampNeg).toInt64) * ((un p2.toNatClampNeg (1 : Int32).toNatClampNeg).toInt64)) - (((un p1.toNatClampNeg (1 : Int32).toNatClampNeg).toInt64) * ((un p2.toNatClampNeg (0 : Int32).toNatClampNeg).toInt64)))))))))))))))))))))))

set_option maxHeartbeats 4000000 in
set_option maxRecDepth 100000 in
theorem c_X1_determinantOf (l : Launch) (G : va_G) (cI cJ cZ cO cA : ClassId) (e : Nat × Nat) (aE : Nat → Nat) (aR : Nat → Nat) (sz : Nat) (un : Nat → Nat → Int32) (tp : Nat → Int32) (sh : Nat → Int64) (de : Int64) (co : Int64) (ma : Int32) (ru : Int32) (fo : Int32) (p0 : Int32) (p1 : Int32) (p2 : Int32) {res : Int64} (hf : f_X1_determinantOf un p0 p1 p2 = some res) : MetL l yX1_determinantOf cX1_determinantOf 13 ({ frames := 0, cells := 0, slots := 0, locals := 0 } : Room) [.ref (aE 0), .int p0, .int p1, .int p2] G (ty5 cI cJ cZ cO cA) e (wE cI cJ cA aE aR un tp sh de co ma ru fo ++ ([] : va_W)) (wE cI cJ cA aE aR un tp sh de co ma ru fo ++ ([] : va_W)) sz res := by
  refine g_body (QQ := fun A => (qL G (ty5 cI cJ cZ cO cA) A (wE cI cJ cA aE aR un tp sh de co ma ru fo ++ ([] : va_W)) res)) (own := RX1) (by decide) rfl (Nat.le_of_ble_eq_true rfl) ?_
  intro p ev s m below meth c A ls hx hb hr hml hown hts hlk hA hP hD hS hK hE hl
  have hl : lv_has ls 13 [(0, .ref (aE 0)), (1, .int p0), (2, .int p1), (3, .int p2)] := hl
  show W p l ev ({ frames := 0, cells := 0, slots := 0, locals := 0 } : Room) s m ([.ref (aE 0), .int p0, .int p1, .int p2] : List Value).toArray below meth c s.heap [] 0 0 (MQ below (qL G (ty5 cI cJ cZ cO cA) A (wE cI cJ cA aE aR un tp sh de co ma ru fo ++ ([] : va_W)) res) ([.ref (aE 0), .int p0, .int p1, .int p2] : List Value).toArray s 0 0 A) (F0 m 0 ls [])
  have h := hf
  unfold f_X1_determinantOf at h
  refine lv_aload_n hx hb dX1_determinantOf_0 rfl (lv_at hl 0 rfl) ?_
  refine va_get (D := G) (ci := 1) (v := .ref (aE 1)) (C := RX1) (T := TX1) (N := 8) hx hb hts uX1 hown hK hP 0 rfl rfl 0 (by decide) (hts _ kw105) (fun _ h9 => h9) rfl dX1_determinantOf_1 ?_
  refine lv_iload_n hx hb dX1_determinantOf_4 rfl (lv_at hl 1 rfl) ?_
  obtain ⟨g1, h⟩ := gd_s h
  have k1 := ib_lt g1
  refine kald hx hb hK hP 1 4 rfl rfl rfl (ib_in g1) (rwF_at k1) dX1_determinantOf_5 ?_
  refine lv_astore (lv' := [(4, .ref (aR p0.toNatClampNeg)), (0, .ref (aE 0)), (1, .int p0), (2, .int p1), (3, .int p2)]) hx hb dX1_determinantOf_6 hl (by decide) rfl (fun ls hl => ?_)
  refine lv_aload_n hx hb dX1_determinantOf_8 rfl (lv_at hl 1 rfl) ?_
  refine va_get (D := G) (ci := 1) (v := .ref (aE 1)) (C := RX1) (T := TX1) (N := 8) hx hb hts uX1 hown hK hP 0 rfl rfl 0 (by decide) (hts _ kw105) (fun _ h9 => h9) rfl dX1_determinantOf_9 ?_
  refine lv_iload_n hx hb dX1_determinantOf_12 rfl (lv_at hl 3 rfl) ?_
  obtain ⟨g2, h⟩ := gd_s h
  have k2 := ib_lt g2
  refine kald hx hb hK hP 1 4 rfl rfl rfl (ib_in g2) (rwF_at k2) dX1_determinantOf_13 ?_
  refine lv_astore (lv' := [(5, .ref (aR p1.toNatClampNeg)), (4, .ref (aR p0.toNatClampNeg)), (0, .ref (aE 0)), (1, .int p0), (2, .int p1), (3, .int p2)]) hx hb dX1_determinantOf_14 hl (by decide) rfl (fun ls hl => ?_)
  refine lv_aload_n hx hb dX1_determinantOf_16 rfl (lv_at hl 2 rfl) ?_
  refine va_get (D := G) (ci := 1) (v := .ref (aE 1)) (C := RX1) (T := TX1) (N := 8) hx hb hts uX1 hown hK hP 0 rfl rfl 0 (by decide) (hts _ kw105) (fun _ h9 => h9) rfl dX1_determinantOf_17 ?_
  refine lv_iload_n hx hb dX1_determinantOf_20 rfl (lv_at hl 5 rfl) ?_
  obtain ⟨g3, h⟩ := gd_s h
  have k3 := ib_lt g3
  refine kald hx hb hK hP 1 4 rfl rfl rfl (ib_in g3) (rwF_at k3) dX1_determinantOf_21 ?_
  refine lv_astore (lv' := [(6, .ref (aR p2.toNatClampNeg)), (5, .ref (aR p1.toNatClampNeg)), (4, .ref (aR p0.toNatClampNeg)), (0, .ref (aE 0)), (1, .int p0), (2, .int p1), (3, .int p2)]) hx hb dX1_determinantOf_22 hl (by decide) rfl (fun ls hl => ?_)
  refine lv_aload hx hb dX1_determinantOf_24 (lv_at hl 1 rfl) ?_
  refine lv_iconst (v := 1) hx hb dX1_determinantOf_26 (by decide) ?_
  obtain ⟨g4, h⟩ := gd_s h
  refine va_iald hx hb hK hP (4 + p1.toNatClampNeg) 0 (wE_row k2) rfl (ib_in g4) dX1_determinantOf_27 ?_
  refine lv_i2l (v := (un p1.toNatClampNeg (1 : Int32).toNatClampNeg).toInt64) hx hb dX1_determinantOf_28 rfl ?_
  refine lv_aload hx hb dX1_determinantOf_29 (lv_at hl 0 rfl) ?_
  refine lv_iconst (v := 2) hx hb dX1_determinantOf_31 (by decide) ?_
  obtain ⟨g5, h⟩ := gd_s h
  refine va_iald hx hb hK hP (4 + p2.toNatClampNeg) 0 (wE_row k3) rfl (ib_in g5) dX1_determinantOf_32 ?_
  refine lv_i2l (v := (un p2.toNatClampNeg (2 : Int32).toNatClampNeg).toInt64) hx hb dX1_determinantOf_33 rfl ?_
  refine lv_lmul hx hb dX1_determinantOf_34 ?_
  refine lv_aload hx hb dX1_determinantOf_35 (lv_at hl 1 rfl) ?_
  refine lv_iconst (v := 2) hx hb dX1_determinantOf_37 (by decide) ?_
  obtain ⟨g6, h⟩ := gd_s h
  refine va_iald hx hb hK hP (4 + p1.toNatClampNeg) 0 (wE_row k2) rfl (ib_in g6) dX1_determinantOf_38 ?_
  refine lv_i2l (v := (un p1.toNatClampNeg (2 : Int32).toNatClampNeg).toInt64) hx hb dX1_determinantOf_39 rfl ?_
  refine lv_aload hx hb dX1_determinantOf_40 (lv_at hl 0 rfl) ?_
  refine lv_iconst (v := 1) hx hb dX1_determinantOf_42 (by decide) ?_
  obtain ⟨g7, h⟩ := gd_s h
  refine va_iald hx hb hK hP (4 + p2.toNatClampNeg) 0 (wE_row k3) rfl (ib_in g7) dX1_determinantOf_43 ?_
  refine lv_i2l (v := (un p2.toNatClampNeg (1 : Int32).toNatClampNeg).toInt64) hx hb dX1_determinantOf_44 rfl ?_
  refine lv_lmul hx hb dX1_determinantOf_45 ?_
  refine lv_lsub hx hb dX1_determinantOf_46 ?_
  refine lv_lstore (lv' := [(7, .long ((((un p1.toNatClampNeg (1 : Int32).toNatClampNeg).toInt64) * ((un p2.toNatClampNeg (2 : Int32).toNatClampNeg).toInt64)) - (((un p1.toNatClampNeg (2 : Int32).toNatClampNeg).toInt64) * ((un p2.toNatClampNeg (1 : Int32).toNatClampNeg).toInt64)))), (6, .ref (aR p2.toNatClampNeg)), (5, .ref (aR p1.toNatClampNeg)), (4, .ref (aR p0.toNatClampNeg)), (0, .ref (aE 0)), (1, .int p0), (2, .int p1), (3, .int p2)]) hx hb dX1_determinantOf_47 hl (by decide) rfl (fun ls hl => ?_)
  refine lv_aload hx hb dX1_determinantOf_49 (lv_at hl 2 rfl) ?_
  refine lv_iconst (v := 0) hx hb dX1_determinantOf_51 (by decide) ?_
  obtain ⟨g8, h⟩ := gd_s h
  refine va_iald hx hb hK hP (4 + p1.toNatClampNeg) 0 (wE_row k2) rfl (ib_in g8) dX1_determinantOf_52 ?_
  refine lv_i2l (v := (un p1.toNatClampNeg (0 : Int32).toNatClampNeg).toInt64) hx hb dX1_determinantOf_53 rfl ?_
  refine lv_aload hx hb dX1_determinantOf_54 (lv_at hl 1 rfl) ?_
  refine lv_iconst (v := 2) hx hb dX1_determinantOf_56 (by decide) ?_
  obtain ⟨g9, h⟩ := gd_s h
  refine va_iald hx hb hK hP (4 + p2.toNatClampNeg) 0 (wE_row k3) rfl (ib_in g9) dX1_determinantOf_57 ?_
  refine lv_i2l (v := (un p2.toNatClampNeg (2 : Int32).toNatClampNeg).toInt64) hx hb dX1_determinantOf_58 rfl ?_
  refine lv_lmul hx hb dX1_determinantOf_59 ?_
  refine lv_aload hx hb dX1_determinantOf_60 (lv_at hl 2 rfl) ?_
  refine lv_iconst (v := 2) hx hb dX1_determinantOf_62 (by decide) ?_
  obtain ⟨g10, h⟩ := gd_s h
  refine va_iald hx hb hK hP (4 + p1.toNatClampNeg) 0 (wE_row k2) rfl (ib_in g10) dX1_determinantOf_63 ?_
  refine lv_i2l (v := (un p1.toNatClampNeg (2 : Int32).toNatClampNeg).toInt64) hx hb dX1_determinantOf_64 rfl ?_
  refine lv_aload hx hb dX1_determinantOf_65 (lv_at hl 1 rfl) ?_
  refine lv_iconst (v := 0) hx hb dX1_determinantOf_67 (by decide) ?_
  obtain ⟨g11, h⟩ := gd_s h
  refine va_iald hx hb hK hP (4 + p2.toNatClampNeg) 0 (wE_row k3) rfl (ib_in g11) dX1_determinantOf_68 ?_
  refine lv_i2l (v := (un p2.toNatClampNeg (0 : Int32).toNatClampNeg).toInt64) hx hb dX1_determinantOf_69 rfl ?_
  refine lv_lmul hx hb dX1_determinantOf_70 ?_
  refine lv_lsub hx hb dX1_determinantOf_71 ?_
  refine lv_lstore (lv' := [(9, .long ((((un p1.toNatClampNeg (0 : Int32).toNatClampNeg).toInt64) * ((un p2.toNatClampNeg (2 : Int32).toNatClampNeg).toInt64)) - (((un p1.toNatClampNeg (2 : Int32).toNatClampNeg).toInt64) * ((un p2.toNatClampNeg (0 : Int32).toNatClampNeg).toInt64)))), (7, .long ((((un p1.toNatClampNeg (1 : Int32).toNatClampNeg).toInt64) * ((un p2.toNatClampNeg (2 : Int32).toNatClampNeg).toInt64)) - (((un p1.toNatClampNeg (2 : Int32).toNatClampNeg).toInt64) * ((un p2.toNatClampNeg (1 : Int32).toNatClampNeg).toInt64)))), (6, .ref (aR p2.toNatClampNeg)), (5, .ref (aR p1.toNatClampNeg)), (4, .ref (aR p0.toNatClampNeg)), (0, .ref (aE 0)), (1, .int p0), (2, .int p1), (3, .int p2)]) hx hb dX1_determinantOf_72 hl (by decide) rfl (fun ls hl => ?_)
  refine lv_aload hx hb dX1_determinantOf_74 (lv_at hl 3 rfl) ?_
  refine lv_iconst (v := 0) hx hb dX1_determinantOf_76 (by decide) ?_
  obtain ⟨g12, h⟩ := gd_s h
  refine va_iald hx hb hK hP (4 + p1.toNatClampNeg) 0 (wE_row k2) rfl (ib_in g12) dX1_determinantOf_77 ?_
  refine lv_i2l (v := (un p1.toNatClampNeg (0 : Int32).toNatClampNeg).toInt64) hx hb dX1_determinantOf_78 rfl ?_
  refine lv_aload hx hb dX1_determinantOf_79 (lv_at hl 2 rfl) ?_
  refine lv_iconst (v := 1) hx hb dX1_determinantOf_81 (by decide) ?_
  obtain ⟨g13, h⟩ := gd_s h
  refine va_iald hx hb hK hP (4 + p2.toNatClampNeg) 0 (wE_row k3) rfl (ib_in g13) dX1_determinantOf_82 ?_
  refine lv_i2l (v := (un p2.toNatClampNeg (1 : Int32).toNatClampNeg).toInt64) hx hb dX1_determinantOf_83 rfl ?_
  refine lv_lmul hx hb dX1_determinantOf_84 ?_
  refine lv_aload hx hb dX1_determinantOf_85 (lv_at hl 3 rfl) ?_
  refine lv_iconst (v := 1) hx hb dX1_determinantOf_87 (by decide) ?_
  obtain ⟨g14, h⟩ := gd_s h
  refine va_iald hx hb hK hP (4 + p1.toNatClampNeg) 0 (wE_row k2) rfl (ib_in g14) dX1_determinantOf_88 ?_
  refine lv_i2l (v := (un p1.toNatClampNeg (1 : Int32).toNatClampNeg).toInt64) hx hb dX1_determinantOf_89 rfl ?_
  refine lv_aload hx hb dX1_determinantOf_90 (lv_at hl 2 rfl) ?_
  refine lv_iconst (v := 0) hx hb dX1_determinantOf_92 (by decide) ?_
  obtain ⟨g15, h⟩ := gd_s h
  refine va_iald hx hb hK hP (4 + p2.toNatClampNeg) 0 (wE_row k3) rfl (ib_in g15) dX1_determinantOf_93 ?_
  refine lv_i2l (v := (un p2.toNatClampNeg (0 : Int32).toNatClampNeg).toInt64) hx hb dX1_determinantOf_94 rfl ?_
  refine lv_lmul hx hb dX1_determinantOf_95 ?_
  refine lv_lsub hx hb dX1_determinantOf_96 ?_
  refine lv_lstore (lv' := [(11, .long ((((un p1.toNatClampNeg (0 : Int32).toNatClampNeg).toInt64) * ((un p2.toNatClampNeg (1 : Int32).toNatClampNeg).toInt64)) - (((un p1.toNatClampNeg (1 : Int32).toNatClampNeg).toInt64) * ((un p2.toNatClampNeg (0 : Int32).toNatClampNeg).toInt64)))), (9, .long ((((un p1.toNatClampNeg (0 : Int32).toNatClampNeg).toInt64) * ((un p2.toNatClampNeg (2 : Int32).toNatClampNeg).toInt64)) - (((un p1.toNatClampNeg (2 : Int32).toNatClampNeg).toInt64) * ((un p2.toNatClampNeg (0 : Int32).toNatClampNeg).toInt64)))), (7, .long ((((un p1.toNatClampNeg (1 : Int32).toNatClampNeg).toInt64) * ((un p2.toNatClampNeg (2 : Int32).toNatClampNeg).toInt64)) - (((un p1.toNatClampNeg (2 : Int32).toNatClampNeg).toInt64) * ((un p2.toNatClampNeg (1 : Int32).toNatClampNeg).toInt64)))), (6, .ref (aR p2.toNatClampNeg)), (5, .ref (aR p1.toNatClampNeg)), (4, .ref (aR p0.toNatClampNeg)), (0, .ref (aE 0)), (1, .int p0), (2, .int p1), (3, .int p2)]) hx hb dX1_determinantOf_97 hl (by decide) rfl (fun ls hl => ?_)
  refine lv_aload hx hb dX1_determinantOf_99 (lv_at hl 5 rfl) ?_
  refine lv_iconst (v := 0) hx hb dX1_determinantOf_101 (by decide) ?_
  obtain ⟨g16, h⟩ := gd_s h
  refine va_iald hx hb hK hP (4 + p0.toNatClampNeg) 0 (wE_row k1) rfl (ib_in g16) dX1_determinantOf_102 ?_
  refine lv_i2l (v := (un p0.toNatClampNeg (0 : Int32).toNatClampNeg).toInt64) hx hb dX1_determinantOf_103 rfl ?_
  refine lv_lload hx hb dX1_determinantOf_104 (lv_at hl 2 rfl) ?_
  refine lv_lmul hx hb dX1_determinantOf_106 ?_
  refine lv_aload hx hb dX1_determinantOf_107 (lv_at hl 5 rfl) ?_
  refine lv_iconst (v := 1) hx hb dX1_determinantOf_109 (by decide) ?_
  obtain ⟨g17, h⟩ := gd_s h
  refine va_iald hx hb hK hP (4 + p0.toNatClampNeg) 0 (wE_row k1) rfl (ib_in g17) dX1_determinantOf_110 ?_
  refine lv_i2l (v := (un p0.toNatClampNeg (1 : Int32).toNatClampNeg).toInt64) hx hb dX1_determinantOf_111 rfl ?_
  refine lv_lload hx hb dX1_determinantOf_112 (lv_at hl 1 rfl) ?_
  refine lv_lmul hx hb dX1_determinantOf_114 ?_
  refine lv_lsub hx hb dX1_determinantOf_115 ?_
  refine lv_aload hx hb dX1_determinantOf_116 (lv_at hl 5 rfl) ?_
  refine lv_iconst (v := 2) hx hb dX1_determinantOf_118 (by decide) ?_
  obtain ⟨g18, h⟩ := gd_s h
  refine va_iald hx hb hK hP (4 + p0.toNatClampNeg) 0 (wE_row k1) rfl (ib_in g18) dX1_determinantOf_119 ?_
  refine lv_i2l (v := (un p0.toNatClampNeg (2 : Int32).toNatClampNeg).toInt64) hx hb dX1_determinantOf_120 rfl ?_
  refine lv_lload hx hb dX1_determinantOf_121 (lv_at hl 0 rfl) ?_
  refine lv_lmul hx hb dX1_determinantOf_123 ?_
  refine lv_ladd hx hb dX1_determinantOf_124 ?_
  rw [← Option.some.inj h]
  exact krl hx hb hr hlk rfl hP hD hS hK dX1_determinantOf_125

/-! X4_determinant -/
def f_X4_determinant_j24 (un : Nat → Nat → Int32) (tp : Nat → Int32) (ru : Int32) : Option (Int32 × (Nat → Nat → Int32) × (Nat → Int32) × Int32) :=
  some ((-2000000001), un, tp, ru)
def f_X4_determinant (pr : Nat → Int32) (ta : Nat → Int32) (tc : Int32) (un : Nat → Nat → Int32) (tp : Nat → Int32) (ru : Int32) (p0 : Int32) (p1 : Int32) (p2 : Int32) : Option (Int32 × (Nat → Nat → Int32) × (Nat → Int32) × Int32) :=
  (f_X4_isThruster tc p0).bind (fun q1 => if q1 = 0 then (f_X4_determinant_j24 un tp ru) else ((f_X4_isThruster tc p1).bind (fun q4 => if q4 = 0 then (f_X4_determinant_j24 un tp ru) else ((f_X4_isThruster tc p2).bind (fun q6 => if q6 = 0 then (f_X4_determinant_j24 un tp ru) else ((f_X1_readThrusters pr ta tc un tp ru).bind (fun q8 => (f_X1_determinantOf q8.1 p0 p1 p2).bind (fun q9 => some (q9.toInt32, q8.1, q8.2.1, q8.2.2)))))))))

set_option maxHeartbeats 4000000 in
set_option maxRecDepth 100000 in
theorem c_X4_determinant (l : Launch) (G : va_G) (cI cJ cZ cO cA : ClassId) (e : Nat × Nat) (aE : Nat → Nat) (aR : Nat → Nat) (aT : Nat) (aS : Nat → Nat) (aH : Nat → Nat) (aX : Nat → Nat) (sz : Nat) (un : Nat → Nat → Int32) (tp : Nat → Int32) (sh : Nat → Int64) (de : Int64) (co : Int64) (ma : Int32) (ru : Int32) (fo : Int32) (pr : Nat → Int32) (pu : Nat → Int32) (ta : Nat → Int32) (se : Nat → Int32) (qu : Nat → Int32) (im : Nat → Int32) (su : Nat → Int64) (tc : Int32) (sc : Int32) (rc : Int32) (cn : Int32) (so : Int32) (p0 : Int32) (p1 : Int32) (p2 : Int32) {res : Int32 × (Nat → Nat → Int32) × (Nat → Int32) × Int32} (hf : f_X4_determinant pr ta tc un tp ru p0 p1 p2 = some res) : MetI l yX4_determinant cX4_determinant 4 .int ({ frames := 5, cells := 0, slots := 0, locals := 109 } : Room) [.ref aT, .int p0, .int p1, .int p2] G (ty5 cI cJ cZ cO cA) e (wE cI cJ cA aE aR un tp sh de co ma ru fo ++ (wT aT (aS 0) (aH 0) (aE 0) (aX 0) ++ (wS cI cJ aS pr pu ta se qu im su tc sc rc cn so ++ ([] : va_W)))) (wE cI cJ cA aE aR res.2.1 res.2.2.1 sh de co ma res.2.2.2 fo ++ (wT aT (aS 0) (aH 0) (aE 0) (aX 0) ++ (wS cI cJ aS pr pu ta se qu im su tc sc rc cn so ++ ([] : va_W)))) sz res.1 := by
  refine g_body (QQ := fun A => (qI G (ty5 cI cJ cZ cO cA) A (wE cI cJ cA aE aR res.2.1 res.2.2.1 sh de co ma res.2.2.2 fo ++ (wT aT (aS 0) (aH 0) (aE 0) (aX 0) ++ (wS cI cJ aS pr pu ta se qu im su tc sc rc cn so ++ ([] : va_W)))) res.1)) (own := RX4) (by decide) rfl (Nat.le_of_ble_eq_true rfl) ?_
  intro p ev s m below meth c A ls hx hb hr hml hown hts hlk hA hP hD hS hK hE hl
  have hl : lv_has ls 4 [(0, .ref aT), (1, .int p0), (2, .int p1), (3, .int p2)] := hl
  show W p l ev ({ frames := 5, cells := 0, slots := 0, locals := 109 } : Room) s m ([.ref aT, .int p0, .int p1, .int p2] : List Value).toArray below meth c s.heap [] 0 0 (MQ below (qI G (ty5 cI cJ cZ cO cA) A (wE cI cJ cA aE aR res.2.1 res.2.2.1 sh de co ma res.2.2.2 fo ++ (wT aT (aS 0) (aH 0) (aE 0) (aX 0) ++ (wS cI cJ aS pr pu ta se qu im su tc sc rc cn so ++ ([] : va_W)))) res.1) ([.ref aT, .int p0, .int p1, .int p2] : List Value).toArray s 0 0 A) (F0 m 0 ls [])
  have h := hf
  unfold f_X4_determinant at h
  refine lv_aload_n hx hb dX4_determinant_0 rfl (lv_at hl 0 rfl) ?_
  refine lv_iload_n hx hb dX4_determinant_1 rfl (lv_at hl 1 rfl) ?_
  obtain ⟨q1, hq1, h⟩ := bd_s h
  refine kVi (n := 1) (C := RX4) (ws' := wE cI cJ cA aE aR un tp sh de co ma ru fo ++ (wT aT (aS 0) (aH 0) (aE 0) (aX 0) ++ (wS cI cJ aS pr pu ta se qu im su tc sc rc cn so ++ ([] : va_W)))) (As := [.int p0]) (rest := []) hx hb hml hown hts (c_X4_isThruster l G cI cJ cZ cO cA e aT aS aH aE aX _ pr pu ta se qu im su tc sc rc cn so p0 hq1) (tb_V kw221 kw223 kv0 kw1 kw224) rfl rfl (by decide +kernel) ⟨Nat.le_of_ble_eq_true rfl, Nat.le_of_ble_eq_true rfl⟩ hK hP hD hS hA hE 13 rfl rfl [13, 14, 15, 16, 17, 18, 19, 20, 21] [0, 1, 2, 3, 4, 5, 6, 7, 8, 9, 10, 11, 12] rfl rfl rfl 22 ⟨rfl, rfl⟩ (by decide +kernel) (by decide +kernel) rfl rfl hl.1 (Nat.le_of_ble_eq_true rfl) ⟨Nat.zero_le _, Nat.zero_le _⟩ dX4_determinant_2 (fun H locs hP hD hS => ?_)
  have hJ3 : ∀ (un_3 : Nat → Nat → Int32) (tp_3 : Nat → Int32) (ru_3 : Int32) (H : Heap) (locs : List Loc) (ls : Array Slot), f_X4_determinant_j24 un_3 tp_3 ru_3 = some res → va_P G vwCl (wE cI cJ cA aE aR un_3 tp_3 sh de co ma ru_3 fo ++ (wT aT (aS 0) (aH 0) (aE 0) (aX 0) ++ (wS cI cJ aS pr pu ta se qu im su tc sc rc cn so ++ ([] : va_W)))) H → va_D A (wE cI cJ cA aE aR un_3 tp_3 sh de co ma ru_3 fo ++ (wT aT (aS 0) (aH 0) (aE 0) (aX 0) ++ (wS cI cJ aS pr pu ta se qu im su tc sc rc cn so ++ ([] : va_W)))) → va_S A s.heap H locs → lv_has ls 4 [] → W p l ev ({ frames := 5, cells := 0, slots := 0, locals := 109 } : Room) s m ([.ref aT, .int p0, .int p1, .int p2] : List Value).toArray below meth c H locs 0 0 (MQ below (qI G (ty5 cI cJ cZ cO cA) A (wE cI cJ cA aE aR res.2.1 res.2.2.1 sh de co ma res.2.2.2 fo ++ (wT aT (aS 0) (aH 0) (aE 0) (aX 0) ++ (wS cI cJ aS pr pu ta se qu im su tc sc rc cn so ++ ([] : va_W)))) res.1) ([.ref aT, .int p0, .int p1, .int p2] : List Value).toArray s 0 0 A) (F0 m 24 ls []) := by
    intro un_3 tp_3 ru_3 H locs ls h hP hD hS hl
    unfold f_X4_determinant_j24 at h
    refine lv_ldc (v := (-2000000001)) hx hb hown (hts _ kw188) dX4_determinant_24 ?_
    rw [← Option.some.inj h]
    exact kri hx hb hr hlk rfl rfl hP hD hS hK dX4_determinant_26
  refine lv_if_eq (tgt := 24) hx hb dX4_determinant_5 (by decide) (fun c2 => ?_) (fun c2 => ?_)
  · replace h := (if_pos c2).symm.trans h
    exact hJ3 un tp ru _ _ _ h hP hD hS (lv_sub hl [] rfl)
  · replace h := (if_neg c2).symm.trans h
    refine lv_aload_n hx hb dX4_determinant_8 rfl (lv_at hl 0 rfl) ?_
    refine lv_iload_n hx hb dX4_determinant_9 rfl (lv_at hl 2 rfl) ?_
    obtain ⟨q4, hq4, h⟩ := bd_s h
    refine kVi (n := 1) (C := RX4) (ws' := wE cI cJ cA aE aR un tp sh de co ma ru fo ++ (wT aT (aS 0) (aH 0) (aE 0) (aX 0) ++ (wS cI cJ aS pr pu ta se qu im su tc sc rc cn so ++ ([] : va_W)))) (As := [.int p1]) (rest := []) hx hb hml hown hts (c_X4_isThruster l G cI cJ cZ cO cA e aT aS aH aE aX _ pr pu ta se qu im su tc sc rc cn so p1 hq4) (tb_V kw221 kw223 kv0 kw1 kw224) rfl rfl (by decide +kernel) ⟨Nat.le_of_ble_eq_true rfl, Nat.le_of_ble_eq_true rfl⟩ hK hP hD hS hA hE 13 rfl rfl [13, 14, 15, 16, 17, 18, 19, 20, 21] [0, 1, 2, 3, 4, 5, 6, 7, 8, 9, 10, 11, 12] rfl rfl rfl 22 ⟨rfl, rfl⟩ (by decide +kernel) (by decide +kernel) rfl rfl hl.1 (Nat.le_of_ble_eq_true rfl) ⟨Nat.zero_le _, Nat.zero_le _⟩ dX4_determinant_10 (fun H locs hP hD hS => ?_)
    refine lv_if_eq (tgt := 24) hx hb dX4_determinant_13 (by decide) (fun c5 => ?_) (fun c5 => ?_)
    · replace h := (if_pos c5).symm.trans h
      exact hJ3 un tp ru _ _ _ h hP hD hS (lv_sub hl [] rfl)
    · replace h := (if_neg c5).symm.trans h
      refine lv_aload_n hx hb dX4_determinant_16 rfl (lv_at hl 0 rfl) ?_
      refine lv_iload_n hx hb dX4_determinant_17 rfl (lv_at hl 3 rfl) ?_
      obtain ⟨q6, hq6, h⟩ := bd_s h
      refine kVi (n := 1) (C := RX4) (ws' := wE cI cJ cA aE aR un tp sh de co ma ru fo ++ (wT aT (aS 0) (aH 0) (aE 0) (aX 0) ++ (wS cI cJ aS pr pu ta se qu im su tc sc rc cn so ++ ([] : va_W)))) (As := [.int p2]) (rest := []) hx hb hml hown hts (c_X4_isThruster l G cI cJ cZ cO cA e aT aS aH aE aX _ pr pu ta se qu im su tc sc rc cn so p2 hq6) (tb_V kw221 kw223 kv0 kw1 kw224) rfl rfl (by decide +kernel) ⟨Nat.le_of_ble_eq_true rfl, Nat.le_of_ble_eq_true rfl⟩ hK hP hD hS hA hE 13 rfl rfl [13, 14, 15, 16, 17, 18, 19, 20, 21] [0, 1, 2, 3, 4, 5, 6, 7, 8, 9, 10, 11, 12] rfl rfl rfl 22 ⟨rfl, rfl⟩ (by decide +kernel) (by decide +kernel) rfl rfl hl.1 (Nat.le_of_ble_eq_true rfl) ⟨Nat.zero_le _, Nat.zero_le _⟩ dX4_determinant_18 (fun H locs hP hD hS => ?_)
      refine lv_if_ne (tgt := 27) hx hb dX4_determinant_21 (by decide) (fun c7 => ?_) (fun c7 => ?_)
      · replace h := (if_neg c7).symm.trans h
        refine lv_aload_n hx hb dX4_determinant_27 rfl (lv_at hl 0 rfl) ?_
        refine va_get (D := G) (ci := 4) (v := .ref (aE 0)) (C := RX4) (T := TX4) (N := 4) hx hb hts uX4 hown hK hP 13 rfl rfl 2 (by decide) (hts _ kw167) (fun _ h9 => h9) rfl dX4_determinant_28 ?_
        refine lv_aload_n hx hb dX4_determinant_31 rfl (lv_at hl 0 rfl) ?_
        refine va_get (D := G) (ci := 4) (v := .ref (aS 0)) (C := RX4) (T := TX4) (N := 4) hx hb hts uX4 hown hK hP 13 rfl rfl 0 (by decide) (hts _ kw165) (fun _ h9 => h9) rfl dX4_determinant_32 ?_
        obtain ⟨q8, hq8, h⟩ := bd_s h
        refine kVv (n := 1) (C := RX1) (ws' := wE cI cJ cA aE aR q8.1 q8.2.1 sh de co ma q8.2.2 fo ++ (wT aT (aS 0) (aH 0) (aE 0) (aX 0) ++ (wS cI cJ aS pr pu ta se qu im su tc sc rc cn so ++ ([] : va_W)))) (As := [.ref (aS 0)]) (rest := []) hx hb hml hown hts (c_X1_readThrusters l G cI cJ cZ cO cA e aE aR aS _ un tp sh de co ma ru fo pr pu ta se qu im su tc sc rc cn so hq8) (tb_V kw225 kw226 kw227 kw5 kw228) rfl rfl (by decide +kernel) ⟨Nat.le_of_ble_eq_true rfl, Nat.le_of_ble_eq_true rfl⟩ hK hP hD hS hA hE 0 rfl rfl [0, 1, 2, 3, 4, 5, 6, 7, 8, 9, 10, 11, 12, 14, 15, 16, 17, 18, 19, 20, 21] [13] rfl rfl rfl 22 ⟨rfl, rfl⟩ (by decide +kernel) (by decide +kernel) rfl rfl hl.1 (Nat.le_of_ble_eq_true rfl) ⟨Nat.zero_le _, Nat.zero_le _⟩ dX4_determinant_35 (fun H locs hP hD hS => ?_)
        refine lv_aload_n hx hb dX4_determinant_38 rfl (lv_at hl 0 rfl) ?_
        refine va_get (D := G) (ci := 4) (v := .ref (aE 0)) (C := RX4) (T := TX4) (N := 4) hx hb hts uX4 hown hK hP 13 rfl rfl 2 (by decide) (hts _ kw167) (fun _ h9 => h9) rfl dX4_determinant_39 ?_
        refine lv_iload_n hx hb dX4_determinant_42 rfl (lv_at hl 1 rfl) ?_
        refine lv_iload_n hx hb dX4_determinant_43 rfl (lv_at hl 2 rfl) ?_
        refine lv_iload_n hx hb dX4_determinant_44 rfl (lv_at hl 3 rfl) ?_
        obtain ⟨q9, hq9, h⟩ := bd_s h
        refine kVl (n := 3) (C := RX1) (ws' := wE cI cJ cA aE aR q8.1 q8.2.1 sh de co ma q8.2.2 fo ++ (wT aT (aS 0) (aH 0) (aE 0) (aX 0) ++ (wS cI cJ aS pr pu ta se qu im su tc sc rc cn so ++ ([] : va_W)))) (As := [.int p0, .int p1, .int p2]) (rest := []) hx hb hml hown hts (c_X1_determinantOf l G cI cJ cZ cO cA e aE aR _ q8.1 q8.2.1 sh de co ma q8.2.2 fo p0 p1 p2 hq9) (tb_V kw257 kw258 kw259 kw5 kw260) rfl rfl (by decide +kernel) ⟨Nat.le_of_ble_eq_true rfl, Nat.le_of_ble_eq_true rfl⟩ hK hP hD hS hA hE 0 rfl rfl [0, 1, 2, 3, 4, 5, 6, 7, 8, 9, 10, 11, 12] [13, 14, 15, 16, 17, 18, 19, 20, 21] rfl rfl rfl 22 ⟨rfl, rfl⟩ (by decide +kernel) (by decide +kernel) rfl rfl hl.1 (Nat.le_of_ble_eq_true rfl) ⟨Nat.zero_le _, Nat.zero_le _⟩ dX4_determinant_45 (fun H locs hP hD hS => ?_)
        refine lv_l2i (v := q9.toInt32) hx hb dX4_determinant_48 rfl ?_
        rw [← Option.some.inj h]
        exact kri hx hb hr hlk rfl rfl hP hD hS hK dX4_determinant_49
      · replace h := (if_pos c7).symm.trans h
        exact hJ3 un tp ru _ _ _ h hP hD hS (lv_sub hl [] rfl)

/-! X4_refuel -/
def f_X4_refuel (pr : Nat → Int32) (pu : Nat → Int32) (se : Nat → Int32) (qu : Nat → Int32) (im : Nat → Int32) (su : Nat → Int64) (tc : Int32) (sc : Int32) (rc : Int32) (cn : Int32) (so : Int32) (ta : Nat → Int32) (hs : Nat → SV) (ol : Int32) (ct : Int32) (p0 : Int32) (p1 : Int32) : Option (Int32 × (Nat → Int32) × (Nat → SV) × Int32 × Int32) :=
  (f_X4_isTank p0).bind (fun q1 => if q1 = 0 then (some ((-2000000001), ta, hs, ol, ct)) else ((f_X4_isWithin p1 0 100000).bind (fun q3 => if q3 = 0 then (some ((-2000000002), ta, hs, ol, ct)) else ((f_X0_keep pr pu ta se qu im su tc sc rc cn so hs ol ct).bind (fun q5 => gd (ib p0 2) (gd (ib p0 2) (some ((ta p0.toNatClampNeg), (upd ta p0.toNatClampNeg p1), q5.1, q5.2.1, q5.2.2))))))))

set_option maxHeartbeats 4000000 in
set_option maxRecDepth 100000 in
theorem c_X4_refuel (l : Launch) (G : va_G) (cI cJ cZ cO cA : ClassId) (e : Nat × Nat) (aT : Nat) (aS : Nat → Nat) (aH : Nat → Nat) (aE : Nat → Nat) (aX : Nat → Nat) (aK : Nat → Nat → Nat) (sz : Nat) (pr : Nat → Int32) (pu : Nat → Int32) (ta : Nat → Int32) (se : Nat → Int32) (qu : Nat → Int32) (im : Nat → Int32) (su : Nat → Int64) (tc : Int32) (sc : Int32) (rc : Int32) (cn : Int32) (so : Int32) (hs : Nat → SV) (ol : Int32) (ct : Int32) (p0 : Int32) (p1 : Int32) {res : Int32 × (Nat → Int32) × (Nat → SV) × Int32 × Int32} (hf : f_X4_refuel pr pu se qu im su tc sc rc cn so ta hs ol ct p0 p1 = some res) : MetI l yX4_refuel cX4_refuel 4 .int ({ frames := 3, cells := 0, slots := 0, locals := 82 } : Room) [.ref aT, .int p0, .int p1] G (ty5 cI cJ cZ cO cA) e (wT aT (aS 0) (aH 0) (aE 0) (aX 0) ++ (wS cI cJ aS pr pu ta se qu im su tc sc rc cn so ++ (wH cI cJ cO aH aK hs ol ct ++ ([] : va_W)))) (wT aT (aS 0) (aH 0) (aE 0) (aX 0) ++ (wS cI cJ aS pr pu res.2.1 se qu im su tc sc rc cn so ++ (wH cI cJ cO aH aK res.2.2.1 res.2.2.2.1 res.2.2.2.2 ++ ([] : va_W)))) sz res.1 := by
  refine g_body (QQ := fun A => (qI G (ty5 cI cJ cZ cO cA) A (wT aT (aS 0) (aH 0) (aE 0) (aX 0) ++ (wS cI cJ aS pr pu res.2.1 se qu im su tc sc rc cn so ++ (wH cI cJ cO aH aK res.2.2.1 res.2.2.2.1 res.2.2.2.2 ++ ([] : va_W)))) res.1)) (own := RX4) (by decide) rfl (Nat.le_of_ble_eq_true rfl) ?_
  intro p ev s m below meth c A ls hx hb hr hml hown hts hlk hA hP hD hS hK hE hl
  have hl : lv_has ls 4 [(0, .ref aT), (1, .int p0), (2, .int p1)] := hl
  show W p l ev ({ frames := 3, cells := 0, slots := 0, locals := 82 } : Room) s m ([.ref aT, .int p0, .int p1] : List Value).toArray below meth c s.heap [] 0 0 (MQ below (qI G (ty5 cI cJ cZ cO cA) A (wT aT (aS 0) (aH 0) (aE 0) (aX 0) ++ (wS cI cJ aS pr pu res.2.1 se qu im su tc sc rc cn so ++ (wH cI cJ cO aH aK res.2.2.1 res.2.2.2.1 res.2.2.2.2 ++ ([] : va_W)))) res.1) ([.ref aT, .int p0, .int p1] : List Value).toArray s 0 0 A) (F0 m 0 ls [])
  have h := hf
  unfold f_X4_refuel at h
  refine lv_iload_n hx hb dX4_refuel_0 rfl (lv_at hl 1 rfl) ?_
  obtain ⟨q1, hq1, h⟩ := bd_s h
  refine kSi (n := 1) (As := [.int p0]) (rest := []) hx hb hml hown hts (c_X4_isTank l G cI cJ cZ cO cA e _ p0 hq1) (tb_S kw182 kw183 kw1 kw184) rfl rfl (by decide +kernel) ⟨Nat.le_of_ble_eq_true rfl, Nat.le_of_ble_eq_true rfl⟩ hK hP hD hS hA hE rfl rfl hl.1 (Nat.le_of_ble_eq_true rfl) ⟨Nat.zero_le _, Nat.zero_le _⟩ dX4_refuel_1 (fun H locs hP hD hS => ?_)
  refine lv_if_ne (tgt := 10) hx hb dX4_refuel_4 (by decide) (fun c2 => ?_) (fun c2 => ?_)
  · replace h := (if_neg c2).symm.trans h
    refine lv_iload_n hx hb dX4_refuel_10 rfl (lv_at hl 2 rfl) ?_
    refine lv_iconst (v := 0) hx hb dX4_refuel_11 (by decide) ?_
    refine lv_ldc (v := 100000) hx hb hown (hts _ kw561) dX4_refuel_12 ?_
    obtain ⟨q3, hq3, h⟩ := bd_s h
    refine kSi (n := 3) (As := [.int p1, .int 0, .int 100000]) (rest := []) hx hb hml hown hts (c_X4_isWithin l G cI cJ cZ cO cA e _ p1 0 100000 hq3) (tb_S kw185 kw186 kw1 kw187) rfl rfl (by decide +kernel) ⟨Nat.le_of_ble_eq_true rfl, Nat.le_of_ble_eq_true rfl⟩ hK hP hD hS hA hE rfl rfl hl.1 (Nat.le_of_ble_eq_true rfl) ⟨Nat.zero_le _, Nat.zero_le _⟩ dX4_refuel_14 (fun H locs hP hD hS => ?_)
    refine lv_if_ne (tgt := 23) hx hb dX4_refuel_17 (by decide) (fun c4 => ?_) (fun c4 => ?_)
    · replace h := (if_neg c4).symm.trans h
      refine lv_aload_n hx hb dX4_refuel_23 rfl (lv_at hl 0 rfl) ?_
      refine va_get (D := G) (ci := 4) (v := .ref (aH 0)) (C := RX4) (T := TX4) (N := 4) hx hb hts uX4 hown hK hP 0 rfl rfl 1 (by decide) (hts _ kw166) (fun _ h9 => h9) rfl dX4_refuel_24 ?_
      refine lv_aload_n hx hb dX4_refuel_27 rfl (lv_at hl 0 rfl) ?_
      refine va_get (D := G) (ci := 4) (v := .ref (aS 0)) (C := RX4) (T := TX4) (N := 4) hx hb hts uX4 hown hK hP 0 rfl rfl 0 (by decide) (hts _ kw165) (fun _ h9 => h9) rfl dX4_refuel_28 ?_
      obtain ⟨q5, hq5, h⟩ := bd_s h
      refine kVv (n := 1) (C := RX0) (ws' := wT aT (aS 0) (aH 0) (aE 0) (aX 0) ++ (wS cI cJ aS pr pu ta se qu im su tc sc rc cn so ++ (wH cI cJ cO aH aK q5.1 q5.2.1 q5.2.2 ++ ([] : va_W)))) (As := [.ref (aS 0)]) (rest := []) hx hb hml hown hts (c_X0_keep l G cI cJ cZ cO cA e aS aH aK _ pr pu ta se qu im su tc sc rc cn so hs ol ct hq5) (tb_V kw194 kw195 kw196 kw4 kw197) rfl rfl (by decide +kernel) ⟨Nat.le_of_ble_eq_true rfl, Nat.le_of_ble_eq_true rfl⟩ hK hP hD hS hA hE 9 rfl rfl [1, 2, 3, 4, 5, 6, 7, 8, 9, 10, 11, 12, 13, 14, 15, 16, 17, 18, 19, 20, 21, 22, 23, 24, 25, 26, 27, 28, 29, 30, 31, 32, 33, 34, 35, 36, 37, 38, 39, 40, 41, 42, 43, 44, 45, 46, 47, 48, 49, 50] [0] rfl rfl rfl 51 ⟨rfl, rfl⟩ (by decide +kernel) (by decide +kernel) rfl rfl hl.1 (Nat.le_of_ble_eq_true rfl) ⟨Nat.zero_le _, Nat.zero_le _⟩ dX4_refuel_31 (fun H locs hP hD hS => ?_)
      refine lv_aload_n hx hb dX4_refuel_34 rfl (lv_at hl 0 rfl) ?_
      refine va_get (D := G) (ci := 4) (v := .ref (aS 0)) (C := RX4) (T := TX4) (N := 4) hx hb hts uX4 hown hK hP 0 rfl rfl 0 (by decide) (hts _ kw165) (fun _ h9 => h9) rfl dX4_refuel_35 ?_
      refine va_getN (D := G) (ci := 2) (v := .ref (aS 3)) (C := RX2) (T := TX2) (N := 12) hx hb hts uX2 hown hK hP 1 rfl rfl 2 (by decide) (hE.nw nk32) (fun _ h9 => h9) rfl dX4_refuel_38 ?_
      refine lv_iload_n hx hb dX4_refuel_41 rfl (lv_at hl 1 rfl) ?_
      obtain ⟨g6, h⟩ := gd_s h
      refine va_iald hx hb hK hP 4 0 rfl rfl (ib_in g6) dX4_refuel_42 ?_
      refine lv_istore_n (lv' := [(3, .int (ta p0.toNatClampNeg)), (0, .ref aT), (1, .int p0), (2, .int p1)]) hx hb dX4_refuel_43 rfl hl (by decide) rfl (fun ls hl => ?_)
      refine lv_aload_n hx hb dX4_refuel_44 rfl (lv_at hl 1 rfl) ?_
      refine va_get (D := G) (ci := 4) (v := .ref (aS 0)) (C := RX4) (T := TX4) (N := 4) hx hb hts uX4 hown hK hP 0 rfl rfl 0 (by decide) (hts _ kw165) (fun _ h9 => h9) rfl dX4_refuel_45 ?_
      refine va_getN (D := G) (ci := 2) (v := .ref (aS 3)) (C := RX2) (T := TX2) (N := 12) hx hb hts uX2 hown hK hP 1 rfl rfl 2 (by decide) (hE.nw nk32) (fun _ h9 => h9) rfl dX4_refuel_48 ?_
      refine lv_iload_n hx hb dX4_refuel_51 rfl (lv_at hl 2 rfl) ?_
      refine lv_iload_n hx hb dX4_refuel_52 rfl (lv_at hl 3 rfl) ?_
      obtain ⟨g7, h⟩ := gd_s h
      refine va_iast hx hb hK hP hD hS 4 0 rfl rfl (ib_in g7) dX4_refuel_53 (fun H locs hP hD hS => ?_)
      have hP : va_P G vwCl (wT aT (aS 0) (aH 0) (aE 0) (aX 0) ++ (wS cI cJ aS pr pu (upd ta p0.toNatClampNeg p1) se qu im su tc sc rc cn so ++ (wH cI cJ cO aH aK q5.1 q5.2.1 q5.2.2 ++ ([] : va_W)))) H := hP
      have hD : va_D A (wT aT (aS 0) (aH 0) (aE 0) (aX 0) ++ (wS cI cJ aS pr pu (upd ta p0.toNatClampNeg p1) se qu im su tc sc rc cn so ++ (wH cI cJ cO aH aK q5.1 q5.2.1 q5.2.2 ++ ([] : va_W)))) := hD
      refine lv_iload_n hx hb dX4_refuel_54 rfl (lv_at hl 0 rfl) ?_
      rw [← Option.some.inj h]
      exact kri hx hb hr hlk rfl rfl hP hD hS hK dX4_refuel_55
    · replace h := (if_pos c4).symm.trans h
      refine lv_ldc (v := (-2000000002)) hx hb hown (hts _ kw192) dX4_refuel_20 ?_
      rw [← Option.some.inj h]
      exact kri hx hb hr hlk rfl rfl hP hD hS hK dX4_refuel_22
  · replace h := (if_pos c2).symm.trans h
    refine lv_ldc (v := (-2000000001)) hx hb hown (hts _ kw188) dX4_refuel_7 ?_
    rw [← Option.some.inj h]
    exact kri hx hb hr hlk rfl rfl hP hD hS hK dX4_refuel_9

/-! X4_fuel -/
def f_X4_fuel (ta : Nat → Int32) (p0 : Int32) : Option (Int32) :=
  (f_X4_isTank p0).bind (fun q1 => if q1 = 0 then (some (-2000000001)) else (gd (ib p0 2) (some (ta p0.toNatClampNeg))))

set_option maxHeartbeats 4000000 in
set_option maxRecDepth 100000 in
theorem c_X4_fuel (l : Launch) (G : va_G) (cI cJ cZ cO cA : ClassId) (e : Nat × Nat) (aT : Nat) (aS : Nat → Nat) (aH : Nat → Nat) (aE : Nat → Nat) (aX : Nat → Nat) (sz : Nat) (pr : Nat → Int32) (pu : Nat → Int32) (ta : Nat → Int32) (se : Nat → Int32) (qu : Nat → Int32) (im : Nat → Int32) (su : Nat → Int64) (tc : Int32) (sc : Int32) (rc : Int32) (cn : Int32) (so : Int32) (p0 : Int32) {res : Int32} (hf : f_X4_fuel ta p0 = some res) : MetI l yX4_fuel cX4_fuel 2 .int ({ frames := 2, cells := 0, slots := 0, locals := 42 } : Room) [.ref aT, .int p0] G (ty5 cI cJ cZ cO cA) e (wT aT (aS 0) (aH 0) (aE 0) (aX 0) ++ (wS cI cJ aS pr pu ta se qu im su tc sc rc cn so ++ ([] : va_W))) (wT aT (aS 0) (aH 0) (aE 0) (aX 0) ++ (wS cI cJ aS pr pu ta se qu im su tc sc rc cn so ++ ([] : va_W))) sz res := by
  refine g_body (QQ := fun A => (qI G (ty5 cI cJ cZ cO cA) A (wT aT (aS 0) (aH 0) (aE 0) (aX 0) ++ (wS cI cJ aS pr pu ta se qu im su tc sc rc cn so ++ ([] : va_W))) res)) (own := RX4) (by decide) rfl (Nat.le_of_ble_eq_true rfl) ?_
  intro p ev s m below meth c A ls hx hb hr hml hown hts hlk hA hP hD hS hK hE hl
  have hl : lv_has ls 2 [(0, .ref aT), (1, .int p0)] := hl
  show W p l ev ({ frames := 2, cells := 0, slots := 0, locals := 42 } : Room) s m ([.ref aT, .int p0] : List Value).toArray below meth c s.heap [] 0 0 (MQ below (qI G (ty5 cI cJ cZ cO cA) A (wT aT (aS 0) (aH 0) (aE 0) (aX 0) ++ (wS cI cJ aS pr pu ta se qu im su tc sc rc cn so ++ ([] : va_W))) res) ([.ref aT, .int p0] : List Value).toArray s 0 0 A) (F0 m 0 ls [])
  have h := hf
  unfold f_X4_fuel at h
  refine lv_iload_n hx hb dX4_fuel_0 rfl (lv_at hl 1 rfl) ?_
  obtain ⟨q1, hq1, h⟩ := bd_s h
  refine kSi (n := 1) (As := [.int p0]) (rest := []) hx hb hml hown hts (c_X4_isTank l G cI cJ cZ cO cA e _ p0 hq1) (tb_S kw182 kw183 kw1 kw184) rfl rfl (by decide +kernel) ⟨Nat.le_of_ble_eq_true rfl, Nat.le_of_ble_eq_true rfl⟩ hK hP hD hS hA hE rfl rfl hl.1 (Nat.le_of_ble_eq_true rfl) ⟨Nat.zero_le _, Nat.zero_le _⟩ dX4_fuel_1 (fun H locs hP hD hS => ?_)
  refine lv_if_eq (tgt := 19) hx hb dX4_fuel_4 (by decide) (fun c2 => ?_) (fun c2 => ?_)
  · replace h := (if_pos c2).symm.trans h
    refine lv_ldc (v := (-2000000001)) hx hb hown (hts _ kw188) dX4_fuel_19 ?_
    rw [← Option.some.inj h]
    exact kri hx hb hr hlk rfl rfl hP hD hS hK dX4_fuel_21
  · replace h := (if_neg c2).symm.trans h
    refine lv_aload_n hx hb dX4_fuel_7 rfl (lv_at hl 0 rfl) ?_
    refine va_get (D := G) (ci := 4) (v := .ref (aS 0)) (C := RX4) (T := TX4) (N := 4) hx hb hts uX4 hown hK hP 0 rfl rfl 0 (by decide) (hts _ kw165) (fun _ h9 => h9) rfl dX4_fuel_8 ?_
    refine va_getN (D := G) (ci := 2) (v := .ref (aS 3)) (C := RX2) (T := TX2) (N := 12) hx hb hts uX2 hown hK hP 1 rfl rfl 2 (by decide) (hE.nw nk32) (fun _ h9 => h9) rfl dX4_fuel_11 ?_
    refine lv_iload_n hx hb dX4_fuel_14 rfl (lv_at hl 1 rfl) ?_
    obtain ⟨g3, h⟩ := gd_s h
    refine va_iald hx hb hK hP 4 0 rfl rfl (ib_in g3) dX4_fuel_15 ?_
    refine lv_goto (tgt := 21) hx hb dX4_fuel_16 (by decide) ?_
    rw [← Option.some.inj h]
    exact kri hx hb hr hlk rfl rfl hP hD hS hK dX4_fuel_21

/-! J6_bitCount_0f7a4 -/
def f_J6_bitCount_0f7a4 (p0 : Int32) : Option (Int32) :=
  some ((((((((p0 - (((p0.toUInt32 >>> ((1 : Int32).toUInt32 &&& Int32.toUInt32 31)).toInt32) &&& 1431655765)) &&& 858993459) + ((((p0 - (((p0.toUInt32 >>> ((1 : Int32).toUInt32 &&& Int32.toUInt32 31)).toInt32) &&& 1431655765)).toUInt32 >>> ((2 : Int32).toUInt32 &&& Int32.toUInt32 31)).toInt32) &&& 858993459)) + (((((p0 - (((p0.toUInt32 >>> ((1 : Int32).toUInt32 &&& Int32.toUInt32 31)).toInt32) &&& 1431655765)) &&& 858993459) + ((((p0 - (((p0.toUInt32 >>> ((1 : Int32).toUInt32 &&& Int32.toUInt32 31)).toInt32) &&& 1431655765)).toUInt32 >>> ((2 : Int32).toUInt32 &&& Int32.toUInt32 31)).toInt32) &&& 858993459)).toUInt32 >>> ((4 : Int32).toUInt32 &&& Int32.toUInt32 31)).toInt32)) &&& 252645135) + (((((((p0 - (((p0.toUInt32 >>> ((1 : Int32).toUInt32 &&& Int32.toUInt32 31)).toInt32) &&& 1431655765)) &&& 858993459) + ((((p0 - (((p0.toUInt32 >>> ((1 : Int32).toUInt32 &&& Int32.toUInt32 31)).toInt32) &&& 1431655765)).toUInt32 >>> ((2 : Int32).toUInt32 &&& Int32.toUInt32 31)).toInt32) &&& 858993459)) + (((((p0 - (((p0.toUInt32 >>> ((1 : Int32).toUInt32 &&& Int32.toUInt32 31)).toInt32) &&& 1431655765)) &&& 858993459) + ((((p0 - (((p0.toUInt32 >>> ((1 : Int32).toUInt32 &&& Int32.toUInt32 31)).toInt32) &&& 1431655765)).toUInt32 >>> ((2 : Int32).toUInt32 &&& Int32.toUInt32 31)).toInt32) &&& 858993459)).toUInt32 >>> ((4 : Int32).toUInt32 &&& Int32.toUInt32 31)).toInt32)) &&& 252645135).toUInt32 >>> ((8 : Int32).toUInt32 &&& Int32.toUInt32 31)).toInt32)) + ((((((((p0 - (((p0.toUInt32 >>> ((1 : Int32).toUInt32 &&& Int32.toUInt32 31)).toInt32) &&& 1431655765)) &&& 858993459) + ((((p0 - (((p0.toUInt32 >>> ((1 : Int32).toUInt32 &&& Int32.toUInt32 31)).toInt32) &&& 1431655765)).toUInt32 >>> ((2 : Int32).toUInt32 &&& Int32.toUInt32 31)).toInt32) &&& 858993459)) + (((((p0 - (((p0.toUInt32 >>> ((1 : Int32).toUInt32 &&& Int32.toUInt32 31)).toInt32) &&& 1431655765)) &&& 858993459) + ((((p0 - (((p0.toUInt32 >>> ((1 : Int32).toUInt32 &&& Int32.toUInt32 31)).toInt32) &&& 1431655765)).toUInt32 >>> ((2 : Int32).toUInt32 &&& Int32.toUInt32 31)).toInt32) &&& 858993459)).toUInt32 >>> ((4 : Int32).toUInt32 &&& Int32.toUInt32 31)).toInt32)) &&& 252645135) + (((((((p0 - (((p0.toUInt32 >>> ((1 : Int32).toUInt32 &&& Int32.toUInt32 31)).toInt32) &&& 1431655765)) &&& 858993459) + ((((p0 - (((p0.toUInt32 >>> ((1 : Int32).toUInt32 &&& Int32.toUInt32 31)).toInt32) &&& 1431655765)).toUInt32 >>> ((2 : Int32).toUInt32 &&& Int32.toUInt32 31)).toInt32) &&& 858993459)) + (((((p0 - (((p0.toUInt32 >>> ((1 : Int32).toUInt32 &&& Int32.toUInt32 31)).toInt32) &&& 1431655765)) &&& 858993459) + ((((p0 - (((p0.toUInt32 >>> ((1 : Int32).toUInt32 &&& Int32.toUInt32 31)).toInt32) &&& 1431655765)).toUInt32 >>> ((2 : Int32).toUInt32 &&& Int32.toUInt32 31)).toInt32) &&& 858993459)).toUInt32 >>> ((4 : Int32).toUInt32 &&& Int32.toUInt32 31)).toInt32)) &&& 252645135).toUInt32 >>> ((8 : Int32).toUInt32 &&& Int32.toUInt32 31)).toInt32)).toUInt32 >>> ((16 : Int32).toUInt32 &&& Int32.toUInt32 31)).toInt32)) &&& 63)

set_option maxHeartbeats 4000000 in
set_option maxRecDepth 100000 in
theorem c_J6_bitCount_0f7a4 (l : Launch) (G : va_G) (cI cJ cZ cO cA : ClassId) (e : Nat × Nat) (sz : Nat) (p0 : Int32) {res : Int32} (hf : f_J6_bitCount_0f7a4 p0 = some res) : MetI l yJ6_bitCount_0f7a4 cJ6_bitCount_0f7a4 1 .int ({ frames := 0, cells := 0, slots := 0, locals := 0 } : Room) [.int p0] G (ty5 cI cJ cZ cO cA) e (([] : va_W)) (([] : va_W)) sz res := by
  refine g_body (QQ := fun A => (qI G (ty5 cI cJ cZ cO cA) A (([] : va_W)) res)) (own := RJ6) (by decide) rfl (Nat.le_of_ble_eq_true rfl) ?_
  intro p ev s m below meth c A ls hx hb hr hml hown hts hlk hA hP hD hS hK hE hl
  have hl : lv_has ls 1 [(0, .int p0)] := hl
  show W p l ev ({ frames := 0, cells := 0, slots := 0, locals := 0 } : Room) s m ([.int p0] : List Value).toArray below meth c s.heap [] 0 0 (MQ below (qI G (ty5 cI cJ cZ cO cA) A (([] : va_W)) res) ([.int p0] : List Value).toArray s 0 0 A) (F0 m 0 ls [])
  have h := hf
  unfold f_J6_bitCount_0f7a4 at h
  refine lv_iload_n hx hb dJ6_bitCount_0f7a4_0 rfl (lv_at hl 0 rfl) ?_
  refine lv_iload_n hx hb dJ6_bitCount_0f7a4_1 rfl (lv_at hl 0 rfl) ?_
  refine lv_iconst (v := 1) hx hb dJ6_bitCount_0f7a4_2 (by decide) ?_
  refine lv_iushr (v := (p0.toUInt32 >>> ((1 : Int32).toUInt32 &&& Int32.toUInt32 31)).toInt32) hx hb dJ6_bitCount_0f7a4_3 rfl ?_
  refine lv_ldcw (v := 1431655765) hx hb hown (hts _ kw268) dJ6_bitCount_0f7a4_4 ?_
  refine lv_iand hx hb dJ6_bitCount_0f7a4_7 ?_
  refine lv_isub hx hb dJ6_bitCount_0f7a4_8 ?_
  refine lv_istore_n (lv' := [(0, .int (p0 - (((p0.toUInt32 >>> ((1 : Int32).toUInt32 &&& Int32.toUInt32 31)).toInt32) &&& 1431655765)))]) hx hb dJ6_bitCount_0f7a4_9 rfl hl (by decide) rfl (fun ls hl => ?_)
  refine lv_iload_n hx hb dJ6_bitCount_0f7a4_10 rfl (lv_at hl 0 rfl) ?_
  refine lv_ldcw (v := 858993459) hx hb hown (hts _ kw269) dJ6_bitCount_0f7a4_11 ?_
  refine lv_iand hx hb dJ6_bitCount_0f7a4_14 ?_
  refine lv_iload_n hx hb dJ6_bitCount_0f7a4_15 rfl (lv_at hl 0 rfl) ?_
  refine lv_iconst (v := 2) hx hb dJ6_bitCount_0f7a4_16 (by decide) ?_
  refine lv_iushr (v := ((p0 - (((p0.toUInt32 >>> ((1 : Int32).toUInt32 &&& Int32.toUInt32 31)).toInt32) &&& 1431655765)).toUInt32 >>> ((2 : Int32).toUInt32 &&& Int32.toUInt32 31)).toInt32) hx hb dJ6_bitCount_0f7a4_17 rfl ?_
  refine lv_ldcw (v := 858993459) hx hb hown (hts _ kw269) dJ6_bitCount_0f7a4_18 ?_
  refine lv_iand hx hb dJ6_bitCount_0f7a4_21 ?_
  refine lv_iadd hx hb dJ6_bitCount_0f7a4_22 ?_
  refine lv_istore_n (lv' := [(0, .int (((p0 - (((p0.toUInt32 >>> ((1 : Int32).toUInt32 &&& Int32.toUInt32 31)).toInt32) &&& 1431655765)) &&& 858993459) + ((((p0 - (((p0.toUInt32 >>> ((1 : Int32).toUInt32 &&& Int32.toUInt32 31)).toInt32) &&& 1431655765)).toUInt32 >>> ((2 : Int32).toUInt32 &&& Int32.toUInt32 31)).toInt32) &&& 858993459)))]) hx hb dJ6_bitCount_0f7a4_23 rfl hl (by decide) rfl (fun ls hl => ?_)
  refine lv_iload_n hx hb dJ6_bitCount_0f7a4_24 rfl (lv_at hl 0 rfl) ?_
  refine lv_iload_n hx hb dJ6_bitCount_0f7a4_25 rfl (lv_at hl 0 rfl) ?_
  refine lv_iconst (v := 4) hx hb dJ6_bitCount_0f7a4_26 (by decide) ?_
  refine lv_iushr (v := ((((p0 - (((p0.toUInt32 >>> ((1 : Int32).toUInt32 &&& Int32.toUInt32 31)).toInt32) &&& 1431655765)) &&& 858993459) + ((((p0 - (((p0.toUInt32 >>> ((1 : Int32).toUInt32 &&& Int32.toUInt32 31)).toInt32) &&& 1431655765)).toUInt32 >>> ((2 : Int32).toUInt32 &&& Int32.toUInt32 31)).toInt32) &&& 858993459)).toUInt32 >>> ((4 : Int32).toUInt32 &&& Int32.toUInt32 31)).toInt32) hx hb dJ6_bitCount_0f7a4_27 rfl ?_
  refine lv_iadd hx hb dJ6_bitCount_0f7a4_28 ?_
  refine lv_ldcw (v := 252645135) hx hb hown (hts _ kw270) dJ6_bitCount_0f7a4_29 ?_
  refine lv_iand hx hb dJ6_bitCount_0f7a4_32 ?_
  refine lv_istore_n (lv' := [(0, .int (((((p0 - (((p0.toUInt32 >>> ((1 : Int32).toUInt32 &&& Int32.toUInt32 31)).toInt32) &&& 1431655765)) &&& 858993459) + ((((p0 - (((p0.toUInt32 >>> ((1 : Int32).toUInt32 &&& Int32.toUInt32 31)).toInt32) &&& 1431655765)).toUInt32 >>> ((2 : Int32).toUInt32 &&& Int32.toUInt32 31)).toInt32) &&& 858993459)) + (((((p0 - (((p0.toUInt32 >>> ((1 : Int32).toUInt32 &&& Int32.toUInt32 31)).toInt32) &&& 1431655765)) &&& 858993459) + ((((p0 - (((p0.toUInt32 >>> ((1 : Int32).toUInt32 &&& Int32.toUInt32 31)).toInt32) &&& 1431655765)).toUInt32 >>> ((2 : Int32).toUInt32 &&& Int32.toUInt32 31)).toInt32) &&& 858993459)).toUInt32 >>> ((4 : Int32).toUInt32 &&& Int32.toUInt32 31)).toInt32)) &&& 252645135))]) hx hb dJ6_bitCount_0f7a4_33 rfl hl (by decide) rfl (fun ls hl => ?_)
  refine lv_iload_n hx hb dJ6_bitCount_0f7a4_34 rfl (lv_at hl 0 rfl) ?_
  refine lv_iload_n hx hb dJ6_bitCount_0f7a4_35 rfl (lv_at hl 0 rfl) ?_
  refine lv_bipush (v := 8) hx hb dJ6_bitCount_0f7a4_36 (by decide) ?_
  refine lv_iushr (v := ((((((p0 - (((p0.toUInt32 >>> ((1 : Int32).toUInt32 &&& Int32.toUInt32 31)).toInt32) &&& 1431655765)) &&& 858993459) + ((((p0 - (((p0.toUInt32 >>> ((1 : Int32).toUInt32 &&& Int32.toUInt32 31)).toInt32) &&& 1431655765)).toUInt32 >>> ((2 : Int32).toUInt32 &&& Int32.toUInt32 31)).toInt32) &&& 858993459)) + (((((p0 - (((p0.toUInt32 >>> ((1 : Int32).toUInt32 &&& Int32.toUInt32 31)).toInt32) &&& 1431655765)) &&& 858993459) + ((((p0 - (((p0.toUInt32 >>> ((1 : Int32).toUInt32 &&& Int32.toUInt32 31)).toInt32) &&& 1431655765)).toUInt32 >>> ((2 : Int32).toUInt32 &&& Int32.toUInt32 31)).toInt32) &&& 858993459)).toUInt32 >>> ((4 : Int32).toUInt32 &&& Int32.toUInt32 31)).toInt32)) &&& 252645135).toUInt32 >>> ((8 : Int32).toUInt32 &&& Int32.toUInt32 31)).toInt32) hx hb dJ6_bitCount_0f7a4_38 rfl ?_
  refine lv_iadd hx hb dJ6_bitCount_0f7a4_39 ?_
  refine lv_istore_n (lv' := [(0, .int ((((((p0 - (((p0.toUInt32 >>> ((1 : Int32).toUInt32 &&& Int32.toUInt32 31)).toInt32) &&& 1431655765)) &&& 858993459) + ((((p0 - (((p0.toUInt32 >>> ((1 : Int32).toUInt32 &&& Int32.toUInt32 31)).toInt32) &&& 1431655765)).toUInt32 >>> ((2 : Int32).toUInt32 &&& Int32.toUInt32 31)).toInt32) &&& 858993459)) + (((((p0 - (((p0.toUInt32 >>> ((1 : Int32).toUInt32 &&& Int32.toUInt32 31)).toInt32) &&& 1431655765)) &&& 858993459) + ((((p0 - (((p0.toUInt32 >>> ((1 : Int32).toUInt32 &&& Int32.toUInt32 31)).toInt32) &&& 1431655765)).toUInt32 >>> ((2 : Int32).toUInt32 &&& Int32.toUInt32 31)).toInt32) &&& 858993459)).toUInt32 >>> ((4 : Int32).toUInt32 &&& Int32.toUInt32 31)).toInt32)) &&& 252645135) + (((((((p0 - (((p0.toUInt32 >>> ((1 : Int32).toUInt32 &&& Int32.toUInt32 31)).toInt32) &&& 1431655765)) &&& 858993459) + ((((p0 - (((p0.toUInt32 >>> ((1 : Int32).toUInt32 &&& Int32.toUInt32 31)).toInt32) &&& 1431655765)).toUInt32 >>> ((2 : Int32).toUInt32 &&& Int32.toUInt32 31)).toInt32) &&& 858993459)) + (((((p0 - (((p0.toUInt32 >>> ((1 : Int32).toUInt32 &&& Int32.toUInt32 31)).toInt32) &&& 1431655765)) &&& 858993459) + ((((p0 - (((p0.toUInt32 >>> ((1 : Int32).toUInt32 &&& Int32.toUInt32 31)).toInt32) &&& 1431655765)).toUInt32 >>> ((2 : Int32).toUInt32 &&& Int32.toUInt32 31)).toInt32) &&& 858993459)).toUInt32 >>> ((4 : Int32).toUInt32 &&& Int32.toUInt32 31)).toInt32)) &&& 252645135).toUInt32 >>> ((8 : Int32).toUInt32 &&& Int32.toUInt32 31)).toInt32)))]) hx hb dJ6_bitCount_0f7a4_40 rfl hl (by decide) rfl (fun ls hl => ?_)
  refine lv_iload_n hx hb dJ6_bitCount_0f7a4_41 rfl (lv_at hl 0 rfl) ?_
  refine lv_iload_n hx hb dJ6_bitCount_0f7a4_42 rfl (lv_at hl 0 rfl) ?_
  refine lv_bipush (v := 16) hx hb dJ6_bitCount_0f7a4_43 (by decide) ?_
  refine lv_iushr (v := (((((((p0 - (((p0.toUInt32 >>> ((1 : Int32).toUInt32 &&& Int32.toUInt32 31)).toInt32) &&& 1431655765)) &&& 858993459) + ((((p0 - (((p0.toUInt32 >>> ((1 : Int32).toUInt32 &&& Int32.toUInt32 31)).toInt32) &&& 1431655765)).toUInt32 >>> ((2 : Int32).toUInt32 &&& Int32.toUInt32 31)).toInt32) &&& 858993459)) + (((((p0 - (((p0.toUInt32 >>> ((1 : Int32).toUInt32 &&& Int32.toUInt32 31)).toInt32) &&& 1431655765)) &&& 858993459) + ((((p0 - (((p0.toUInt32 >>> ((1 : Int32).toUInt32 &&& Int32.toUInt32 31)).toInt32) &&& 1431655765)).toUInt32 >>> ((2 : Int32).toUInt32 &&& Int32.toUInt32 31)).toInt32) &&& 858993459)).toUInt32 >>> ((4 : Int32).toUInt32 &&& Int32.toUInt32 31)).toInt32)) &&& 252645135) + (((((((p0 - (((p0.toUInt32 >>> ((1 : Int32).toUInt32 &&& Int32.toUInt32 31)).toInt32) &&& 1431655765)) &&& 858993459) + ((((p0 - (((p0.toUInt32 >>> ((1 : Int32).toUInt32 &&& Int32.toUInt32 31)).toInt32) &&& 1431655765)).toUInt32 >>> ((2 : Int32).toUInt32 &&& Int32.toUInt32 31)).toInt32) &&& 858993459)) + (((((p0 - (((p0.toUInt32 >>> ((1 : Int32).toUInt32 &&& Int32.toUInt32 31)).toInt32) &&& 1431655765)) &&& 858993459) + ((((p0 - (((p0.toUInt32 >>> ((1 : Int32).toUInt32 &&& Int32.toUInt32 31)).toInt32) &&& 1431655765)).toUInt32 >>> ((2 : Int32).toUInt32 &&& Int32.toUInt32 31)).toInt32) &&& 858993459)).toUInt32 >>> ((4 : Int32).toUInt32 &&& Int32.toUInt32 31)).toInt32)) &&& 252645135).toUInt32 >>> ((8 : Int32).toUInt32 &&& Int32.toUInt32 31)).toInt32)).toUInt32 >>> ((16 : Int32).toUInt32 &&& Int32.toUInt32 31)).toInt32) hx hb dJ6_bitCount_0f7a4_45 rfl ?_
  refine lv_iadd hx hb dJ6_bitCount_0f7a4_46 ?_
  refine lv_istore_n (lv' := [(0, .int (((((((p0 - (((p0.toUInt32 >>> ((1 : Int32).toUInt32 &&& Int32.toUInt32 31)).toInt32) &&& 1431655765)) &&& 858993459) + ((((p0 - (((p0.toUInt32 >>> ((1 : Int32).toUInt32 &&& Int32.toUInt32 31)).toInt32) &&& 1431655765)).toUInt32 >>> ((2 : Int32).toUInt32 &&& Int32.toUInt32 31)).toInt32) &&& 858993459)) + (((((p0 - (((p0.toUInt32 >>> ((1 : Int32).toUInt32 &&& Int32.toUInt32 31)).toInt32) &&& 1431655765)) &&& 858993459) + ((((p0 - (((p0.toUInt32 >>> ((1 : Int32).toUInt32 &&& Int32.toUInt32 31)).toInt32) &&& 1431655765)).toUInt32 >>> ((2 : Int32).toUInt32 &&& Int32.toUInt32 31)).toInt32) &&& 858993459)).toUInt32 >>> ((4 : Int32).toUInt32 &&& Int32.toUInt32 31)).toInt32)) &&& 252645135) + (((((((p0 - (((p0.toUInt32 >>> ((1 : Int32).toUInt32 &&& Int32.toUInt32 31)).toInt32) &&& 1431655765)) &&& 858993459) + ((((p0 - (((p0.toUInt32 >>> ((1 : Int32).toUInt32 &&& Int32.toUInt32 31)).toInt32) &&& 1431655765)).toUInt32 >>> ((2 : Int32).toUInt32 &&& Int32.toUInt32 31)).toInt32) &&& 858993459)) + (((((p0 - (((p0.toUInt32 >>> ((1 : Int32).toUInt32 &&& Int32.toUInt32 31)).toInt32) &&& 1431655765)) &&& 858993459) + ((((p0 - (((p0.toUInt32 >>> ((1 : Int32).toUInt32 &&& Int32.toUInt32 31)).toInt32) &&& 1431655765)).toUInt32 >>> ((2 : Int32).toUInt32 &&& Int32.toUInt32 31)).toInt32) &&& 858993459)).toUInt32 >>> ((4 : Int32).toUInt32 &&& Int32.toUInt32 31)).toInt32)) &&& 252645135).toUInt32 >>> ((8 : Int32).toUInt32 &&& Int32.toUInt32 31)).toInt32)) + ((((((((p0 - (((p0.toUInt32 >>> ((1 : Int32).toUInt32 &&& Int32.toUInt32 31)).toInt32) &&& 1431655765)) &&& 858993459) + ((((p0 - (((p0.toUInt32 >>> ((1 : Int32).toUInt32 &&& Int32.toUInt32 31)).toInt32) &&& 1431655765)).toUInt32 >>> ((2 : Int32).toUInt32 &&& Int32.toUInt32 31)).toInt32) &&& 858993459)) + (((((p0 - (((p0.toUInt32 >>> ((1 : Int32).toUInt32 &&& Int32.toUInt32 31)).toInt32) &&& 1431655765)) &&& 858993459) + ((((p0 - (((p0.toUInt32 >>> ((1 : Int32).toUInt32 &&& Int32.toUInt32 31)).toInt32) &&& 1431655765)).toUInt32 >>> ((2 : Int32).toUInt32 &&& Int32.toUInt32 31)).toInt32) &&& 858993459)).toUInt32 >>> ((4 : Int32).toUInt32 &&& Int32.toUInt32 31)).toInt32)) &&& 252645135) + (((((((p0 - (((p0.toUInt32 >>> ((1 : Int32).toUInt32 &&& Int32.toUInt32 31)).toInt32) &&& 1431655765)) &&& 858993459) + ((((p0 - (((p0.toUInt32 >>> ((1 : Int32).toUInt32 &&& Int32.toUInt32 31)).toInt32) &&& 1431655765)).toUInt32 >>> ((2 : Int32).toUInt32 &&& Int32.toUInt32 31)).toInt32) &&& 858993459)) + (((((p0 - (((p0.toUInt32 >>> ((1 : Int32).toUInt32 &&& Int32.toUInt32 31)).toInt32) &&& 1431655765)) &&& 858993459) + ((((p0 - (((p0.toUInt32 >>> ((1 : Int32).toUInt32 &&& Int32.toUInt32 31)).toInt32) &&& 1431655765)).toUInt32 >>> ((2 : Int32).toUInt32 &&& Int32.toUInt32 31)).toInt32) &&& 858993459)).toUInt32 >>> ((4 : Int32).toUInt32 &&& Int32.toUInt32 31)).toInt32)) &&& 252645135).toUInt32 >>> ((8 : Int32).toUInt32 &&& Int32.toUInt32 31)).toInt32)).toUInt32 >>> ((16 : Int32).toUInt32 &&& Int32.toUInt32 31)).toInt32)))]) hx hb dJ6_bitCount_0f7a4_47 rfl hl (by decide) rfl (fun ls hl => ?_)
  refine lv_iload_n hx hb dJ6_bitCount_0f7a4_48 rfl (lv_at hl 0 rfl) ?_
  refine lv_bipush (v := 63) hx hb dJ6_bitCount_0f7a4_49 (by decide) ?_
  refine lv_iand hx hb dJ6_bitCount_0f7a4_51 ?_
  rw [← Option.some.inj h]
  exact kri hx hb hr hlk rfl rfl hP hD hS hK dJ6_bitCount_0f7a4_52

/-! X2_placeOfSet -/
def f_X2_placeOfSet_b2 (se : Nat → Int32) (sc : Int32) (v1 : Int32) (z1 : Int32) : Option ((Int32) ⊕ ((Int32) ⊕ (Unit))) :=
  if sc ≤ z1 then (some (Sum.inr (Sum.inr ()))) else (gd (ib z1 8) (if (se z1.toNatClampNeg) = v1 then (some (Sum.inr (Sum.inl z1))) else (some (Sum.inl (z1 + 1)))))
def f_X2_placeOfSet (se : Nat → Int32) (sc : Int32) (p0 : Int32) : Option (Int32) :=
  (lp (f_X2_placeOfSet_b2 se sc p0) 1000 0).bind (fun q1 => Sum.elim (fun t1 => some t1) (fun t1 => some (-1)) q1)

set_option maxHeartbeats 4000000 in
set_option maxRecDepth 100000 in
theorem c_X2_placeOfSet (l : Launch) (G : va_G) (cI cJ cZ cO cA : ClassId) (e : Nat × Nat) (aS : Nat → Nat) (sz : Nat) (pr : Nat → Int32) (pu : Nat → Int32) (ta : Nat → Int32) (se : Nat → Int32) (qu : Nat → Int32) (im : Nat → Int32) (su : Nat → Int64) (tc : Int32) (sc : Int32) (rc : Int32) (cn : Int32) (so : Int32) (p0 : Int32) {res : Int32} (hf : f_X2_placeOfSet se sc p0 = some res) : MetI l yX2_placeOfSet cX2_placeOfSet 3 .int ({ frames := 0, cells := 0, slots := 0, locals := 0 } : Room) [.ref (aS 0), .int p0] G (ty5 cI cJ cZ cO cA) e (wS cI cJ aS pr pu ta se qu im su tc sc rc cn so ++ ([] : va_W)) (wS cI cJ aS pr pu ta se qu im su tc sc rc cn so ++ ([] : va_W)) sz res := by
  refine g_body (QQ := fun A => (qI G (ty5 cI cJ cZ cO cA) A (wS cI cJ aS pr pu ta se qu im su tc sc rc cn so ++ ([] : va_W)) res)) (own := RX2) (by decide) rfl (Nat.le_of_ble_eq_true rfl) ?_
  intro p ev s m below meth c A ls hx hb hr hml hown hts hlk hA hP hD hS hK hE hl
  have hl : lv_has ls 3 [(0, .ref (aS 0)), (1, .int p0)] := hl
  show W p l ev ({ frames := 0, cells := 0, slots := 0, locals := 0 } : Room) s m ([.ref (aS 0), .int p0] : List Value).toArray below meth c s.heap [] 0 0 (MQ below (qI G (ty5 cI cJ cZ cO cA) A (wS cI cJ aS pr pu ta se qu im su tc sc rc cn so ++ ([] : va_W)) res) ([.ref (aS 0), .int p0] : List Value).toArray s 0 0 A) (F0 m 0 ls [])
  have h := hf
  unfold f_X2_placeOfSet at h
  refine lv_iconst (v := 0) hx hb dX2_placeOfSet_0 (by decide) ?_
  refine lv_istore_n (lv' := [(2, .int 0), (0, .ref (aS 0)), (1, .int p0)]) hx hb dX2_placeOfSet_1 rfl hl (by decide) rfl (fun ls hl => ?_)
  obtain ⟨q1, hq1, h⟩ := bd_s h
  have hX1_0 : ∀ (t1 : Int32) (H : Heap) (locs : List Loc) (ls : Array Slot), Sum.inl t1 = q1 → va_P G vwCl (wS cI cJ aS pr pu ta se qu im su tc sc rc cn so ++ ([] : va_W)) H → va_D A (wS cI cJ aS pr pu ta se qu im su tc sc rc cn so ++ ([] : va_W)) → va_S A s.heap H locs → lv_has ls 3 [(2, .int t1)] → W p l ev ({ frames := 0, cells := 0, slots := 0, locals := 0 } : Room) s m ([.ref (aS 0), .int p0] : List Value).toArray below meth c H locs 0 0 (MQ below (qI G (ty5 cI cJ cZ cO cA) A (wS cI cJ aS pr pu ta se qu im su tc sc rc cn so ++ ([] : va_W)) res) ([.ref (aS 0), .int p0] : List Value).toArray s 0 0 A) (F0 m 20 ls []) := by
    intro t1 H locs ls e1 hP hD hS hl
    rw [← e1] at h
    replace h := se_l h
    refine lv_iload_n hx hb dX2_placeOfSet_20 rfl (lv_at hl 0 rfl) ?_
    rw [← Option.some.inj h]
    exact kri hx hb hr hlk rfl rfl hP hD hS hK dX2_placeOfSet_21
  have hX1_1 : ∀ (t1 : Unit) (H : Heap) (locs : List Loc) (ls : Array Slot), Sum.inr t1 = q1 → va_P G vwCl (wS cI cJ aS pr pu ta se qu im su tc sc rc cn so ++ ([] : va_W)) H → va_D A (wS cI cJ aS pr pu ta se qu im su tc sc rc cn so ++ ([] : va_W)) → va_S A s.heap H locs → lv_has ls 3 [] → W p l ev ({ frames := 0, cells := 0, slots := 0, locals := 0 } : Room) s m ([.ref (aS 0), .int p0] : List Value).toArray below meth c H locs 0 0 (MQ below (qI G (ty5 cI cJ cZ cO cA) A (wS cI cJ aS pr pu ta se qu im su tc sc rc cn so ++ ([] : va_W)) res) ([.ref (aS 0), .int p0] : List Value).toArray s 0 0 A) (F0 m 28 ls []) := by
    intro t1 H locs ls e1 hP hD hS hl
    rw [← e1] at h
    replace h := se_r h
    refine lv_iconst (v := (-1)) hx hb dX2_placeOfSet_28 (by decide) ?_
    rw [← Option.some.inj h]
    exact kri hx hb hr hlk rfl rfl hP hD hS hK dX2_placeOfSet_29
  have hL1 : ∀ (n : Nat) (z1 : Int32) (H : Heap) (locs : List Loc) (ls : Array Slot), lp (f_X2_placeOfSet_b2 se sc p0) n z1 = some q1 → va_P G vwCl (wS cI cJ aS pr pu ta se qu im su tc sc rc cn so ++ ([] : va_W)) H → va_D A (wS cI cJ aS pr pu ta se qu im su tc sc rc cn so ++ ([] : va_W)) → va_S A s.heap H locs → lv_has ls 3 [(0, .ref (aS 0)), (1, .int p0), (2, .int z1)] → W p l ev ({ frames := 0, cells := 0, slots := 0, locals := 0 } : Room) s m ([.ref (aS 0), .int p0] : List Value).toArray below meth c H locs 0 0 (MQ below (qI G (ty5 cI cJ cZ cO cA) A (wS cI cJ aS pr pu ta se qu im su tc sc rc cn so ++ ([] : va_W)) res) ([.ref (aS 0), .int p0] : List Value).toArray s 0 0 A) (F0 m 2 ls []) := by
    intro n
    induction n with
    | zero => intro z1 H locs ls h; cases h
    | succ n ih1 =>
      intro z1 H locs ls h hP hD hS hl
      obtain ⟨o1, h, h1⟩ := lp_s h
      unfold f_X2_placeOfSet_b2 at h
      refine lv_iload_n hx hb dX2_placeOfSet_2 rfl (lv_at hl 2 rfl) ?_
      refine lv_aload_n hx hb dX2_placeOfSet_3 rfl (lv_at hl 0 rfl) ?_
      refine va_get (D := G) (ci := 2) (v := .int sc) (C := RX2) (T := TX2) (N := 12) hx hb hts uX2 hown hK hP 0 rfl rfl 8 (by decide) (hts _ kw43) (fun _ h9 => h9) rfl dX2_placeOfSet_4 ?_
      refine lv_icmp_ge (tgt := 28) hx hb dX2_placeOfSet_7 (by decide) (fun c2 => ?_) (fun c2 => ?_)
      · replace h := (if_pos c2).symm.trans h
        rw [← Option.some.inj h] at h1
        exact hX1_1 () _ _ _ (lp_x h1) hP hD hS (lv_sub hl [] rfl)
      · replace h := (if_neg c2).symm.trans h
        refine lv_aload_n hx hb dX2_placeOfSet_10 rfl (lv_at hl 0 rfl) ?_
        refine va_get (D := G) (ci := 2) (v := .ref (aS 4)) (C := RX2) (T := TX2) (N := 12) hx hb hts uX2 hown hK hP 0 rfl rfl 3 (by decide) (hts _ kw33) (fun _ h9 => h9) rfl dX2_placeOfSet_11 ?_
        refine lv_iload_n hx hb dX2_placeOfSet_14 rfl (lv_at hl 2 rfl) ?_
        obtain ⟨g3, h⟩ := gd_s h
        refine va_iald hx hb hK hP 4 0 rfl rfl (ib_in g3) dX2_placeOfSet_15 ?_
        refine lv_iload_n hx hb dX2_placeOfSet_16 rfl (lv_at hl 1 rfl) ?_
        refine lv_icmp_ne (tgt := 22) hx hb dX2_placeOfSet_17 (by decide) (fun c4 => ?_) (fun c4 => ?_)
        · replace h := (if_neg c4).symm.trans h
          refine lv_iinc (v := (z1 + 1)) (lv' := [(2, .int (z1 + 1)), (0, .ref (aS 0)), (1, .int p0)]) hx hb dX2_placeOfSet_22 hl (k := 2) rfl rfl (by decide) rfl (fun ls hl => ?_)
          refine lv_goto (tgt := 2) hx hb dX2_placeOfSet_25 (by decide) ?_
          rw [← Option.some.inj h] at h1
          exact ih1 (z1 + 1) _ _ _ (lp_b h1) hP hD hS (lv_sub hl [1, 2, 0] rfl)
        · replace h := (if_pos c4).symm.trans h
          rw [← Option.some.inj h] at h1
          exact hX1_0 z1 _ _ _ (lp_x h1) hP hD hS (lv_sub hl [2] rfl)
  exact hL1 _ 0 _ _ _ hq1 hP hD hS (lv_sub hl [1, 2, 0] rfl)

/-! X2_appendSet -/
def f_X2_appendSet (se : Nat → Int32) (sc : Int32) (p0 : Int32) : Option (Int32 × (Nat → Int32) × Int32) :=
  gd (ib sc 8) (some ((sc + 1), (upd se sc.toNatClampNeg p0), (sc + 1)))

set_option maxHeartbeats 4000000 in
set_option maxRecDepth 100000 in
theorem c_X2_appendSet (l : Launch) (G : va_G) (cI cJ cZ cO cA : ClassId) (e : Nat × Nat) (aS : Nat → Nat) (sz : Nat) (pr : Nat → Int32) (pu : Nat → Int32) (ta : Nat → Int32) (se : Nat → Int32) (qu : Nat → Int32) (im : Nat → Int32) (su : Nat → Int64) (tc : Int32) (sc : Int32) (rc : Int32) (cn : Int32) (so : Int32) (p0 : Int32) {res : Int32 × (Nat → Int32) × Int32} (hf : f_X2_appendSet se sc p0 = some res) : MetI l yX2_appendSet cX2_appendSet 2 .int ({ frames := 0, cells := 0, slots := 0, locals := 0 } : Room) [.ref (aS 0), .int p0] G (ty5 cI cJ cZ cO cA) e (wS cI cJ aS pr pu ta se qu im su tc sc rc cn so ++ ([] : va_W)) (wS cI cJ aS pr pu ta res.2.1 qu im su tc res.2.2 rc cn so ++ ([] : va_W)) sz res.1 := by
  refine g_body (QQ := fun A => (qI G (ty5 cI cJ cZ cO cA) A (wS cI cJ aS pr pu ta res.2.1 qu im su tc res.2.2 rc cn so ++ ([] : va_W)) res.1)) (own := RX2) (by decide) rfl (Nat.le_of_ble_eq_true rfl) ?_
  intro p ev s m below meth c A ls hx hb hr hml hown hts hlk hA hP hD hS hK hE hl
  have hl : lv_has ls 2 [(0, .ref (aS 0)), (1, .int p0)] := hl
  show W p l ev ({ frames := 0, cells := 0, slots := 0, locals := 0 } : Room) s m ([.ref (aS 0), .int p0] : List Value).toArray below meth c s.heap [] 0 0 (MQ below (qI G (ty5 cI cJ cZ cO cA) A (wS cI cJ aS pr pu ta res.2.1 qu im su tc res.2.2 rc cn so ++ ([] : va_W)) res.1) ([.ref (aS 0), .int p0] : List Value).toArray s 0 0 A) (F0 m 0 ls [])
  have h := hf
  unfold f_X2_appendSet at h
  refine lv_aload_n hx hb dX2_appendSet_0 rfl (lv_at hl 0 rfl) ?_
  refine va_get (D := G) (ci := 2) (v := .ref (aS 4)) (C := RX2) (T := TX2) (N := 12) hx hb hts uX2 hown hK hP 0 rfl rfl 3 (by decide) (hts _ kw33) (fun _ h9 => h9) rfl dX2_appendSet_1 ?_
  refine lv_aload_n hx hb dX2_appendSet_4 rfl (lv_at hl 0 rfl) ?_
  refine va_get (D := G) (ci := 2) (v := .int sc) (C := RX2) (T := TX2) (N := 12) hx hb hts uX2 hown hK hP 0 rfl rfl 8 (by decide) (hts _ kw43) (fun _ h9 => h9) rfl dX2_appendSet_5 ?_
  refine lv_iload_n hx hb dX2_appendSet_8 rfl (lv_at hl 1 rfl) ?_
  obtain ⟨g1, h⟩ := gd_s h
  refine va_iast hx hb hK hP hD hS 4 0 rfl rfl (ib_in g1) dX2_appendSet_9 (fun H locs hP hD hS => ?_)
  have hP : va_P G vwCl (wS cI cJ aS pr pu ta (upd se sc.toNatClampNeg p0) qu im su tc sc rc cn so ++ ([] : va_W)) H := hP
  have hD : va_D A (wS cI cJ aS pr pu ta (upd se sc.toNatClampNeg p0) qu im su tc sc rc cn so ++ ([] : va_W)) := hD
  refine lv_aload_n hx hb dX2_appendSet_10 rfl (lv_at hl 0 rfl) ?_
  refine lv_dup hx hb dX2_appendSet_11 rfl ?_
  refine va_get (D := G) (ci := 2) (v := .int sc) (C := RX2) (T := TX2) (N := 12) hx hb hts uX2 hown hK hP 0 rfl rfl 8 (by decide) (hts _ kw43) (fun _ h9 => h9) rfl dX2_appendSet_12 ?_
  refine lv_iconst (v := 1) hx hb dX2_appendSet_15 (by decide) ?_
  refine lv_iadd hx hb dX2_appendSet_16 ?_
  refine va_put (D := G) (ci := 2) (ty := .int) (v := .int (sc + 1)) (C := RX2) (T := TX2) (N := 12) hx hb hts uX2 tyX2 tyX2_ok nmX2 hown hK hP hD hS 0 rfl rfl 8 (by decide) (hts _ kw43) (fun _ h9 => h9) rfl (by decide +kernel) rfl rfl (Nat.le_of_ble_eq_true rfl) dX2_appendSet_17 (fun H locs hP hD hS => ?_)
  have hP : va_P G vwCl (wS cI cJ aS pr pu ta (upd se sc.toNatClampNeg p0) qu im su tc (sc + 1) rc cn so ++ ([] : va_W)) H := hP
  have hD : va_D A (wS cI cJ aS pr pu ta (upd se sc.toNatClampNeg p0) qu im su tc (sc + 1) rc cn so ++ ([] : va_W)) := hD
  refine lv_aload_n hx hb dX2_appendSet_20 rfl (lv_at hl 0 rfl) ?_
  refine va_get (D := G) (ci := 2) (v := .int (sc + 1)) (C := RX2) (T := TX2) (N := 12) hx hb hts uX2 hown hK hP 0 rfl rfl 8 (by decide) (hts _ kw43) (fun _ h9 => h9) rfl dX2_appendSet_21 ?_
  rw [← Option.some.inj h]
  exact kri hx hb hr hlk rfl rfl hP hD hS hK dX2_appendSet_24

/-! X4_forbid -/
def f_X4_forbid_j29 (se : Nat → Int32) (sc : Int32) (hs : Nat → SV) (ol : Int32) (ct : Int32) : Option (Int32 × (Nat → Int32) × Int32 × (Nat → SV) × Int32 × Int32) :=
  some ((-2000000002), se, sc, hs, ol, ct)
def f_X4_forbid (pr : Nat → Int32) (pu : Nat → Int32) (ta : Nat → Int32) (qu : Nat → Int32) (im : Nat → Int32) (su : Nat → Int64) (tc : Int32) (rc : Int32) (cn : Int32) (so : Int32) (se : Nat → Int32) (sc : Int32) (hs : Nat → SV) (ol : Int32) (ct : Int32) (p0 : Int32) : Option (Int32 × (Nat → Int32) × Int32 × (Nat → SV) × Int32 × Int32) :=
  (f_X4_isWithin p0 0 ((1 <<< (tc &&& 31)) - 1)).bind (fun q1 => if q1 = 0 then (f_X4_forbid_j29 se sc hs ol ct) else ((f_J6_bitCount_0f7a4 p0).bind (fun q4 => if 2 ≤ q4 then ((f_X2_placeOfSet se sc p0).bind (fun q6 => if q6 < 0 then (if sc < 8 then ((f_X0_keep pr pu ta se qu im su tc sc rc cn so hs ol ct).bind (fun q9 => (f_X2_appendSet se sc p0).bind (fun q10 => some (q10.1, q10.2.1, q10.2.2, q9.1, q9.2.1, q9.2.2)))) else (some ((-2000000004), se, sc, hs, ol, ct))) else (some ((-2000000003), se, sc, hs, ol, ct)))) else (f_X4_forbid_j29 se sc hs ol ct))))

set_option maxHeartbeats 4000000 in
set_option maxRecDepth 100000 in
theorem c_X4_forbid (l : Launch) (G : va_G) (cI cJ cZ cO cA : ClassId) (e : Nat × Nat) (aT : Nat) (aS : Nat → Nat) (aH : Nat → Nat) (aE : Nat → Nat) (aX : Nat → Nat) (aK : Nat → Nat → Nat) (sz : Nat) (pr : Nat → Int32) (pu : Nat → Int32) (ta : Nat → Int32) (se : Nat → Int32) (qu : Nat → Int32) (im : Nat → Int32) (su : Nat → Int64) (tc : Int32) (sc : Int32) (rc : Int32) (cn : Int32) (so : Int32) (hs : Nat → SV) (ol : Int32) (ct : Int32) (p0 : Int32) {res : Int32 × (Nat → Int32) × Int32 × (Nat → SV) × Int32 × Int32} (hf : f_X4_forbid pr pu ta qu im su tc rc cn so se sc hs ol ct p0 = some res) : MetI l yX4_forbid cX4_forbid 3 .int ({ frames := 3, cells := 0, slots := 0, locals := 82 } : Room) [.ref aT, .int p0] G (ty5 cI cJ cZ cO cA) e (wT aT (aS 0) (aH 0) (aE 0) (aX 0) ++ (wS cI cJ aS pr pu ta se qu im su tc sc rc cn so ++ (wH cI cJ cO aH aK hs ol ct ++ ([] : va_W)))) (wT aT (aS 0) (aH 0) (aE 0) (aX 0) ++ (wS cI cJ aS pr pu ta res.2.1 qu im su tc res.2.2.1 rc cn so ++ (wH cI cJ cO aH aK res.2.2.2.1 res.2.2.2.2.1 res.2.2.2.2.2 ++ ([] : va_W)))) sz res.1 := by
  refine g_body (QQ := fun A => (qI G (ty5 cI cJ cZ cO cA) A (wT aT (aS 0) (aH 0) (aE 0) (aX 0) ++ (wS cI cJ aS pr pu ta res.2.1 qu im su tc res.2.2.1 rc cn so ++ (wH cI cJ cO aH aK res.2.2.2.1 res.2.2.2.2.1 res.2.2.2.2.2 ++ ([] : va_W)))) res.1)) (own := RX4) (by decide) rfl (Nat.le_of_ble_eq_true rfl) ?_
  intro p ev s m below meth c A ls hx hb hr hml hown hts hlk hA hP hD hS hK hE hl
  have hl : lv_has ls 3 [(0, .ref aT), (1, .int p0)] := hl
  show W p l ev ({ frames := 3, cells := 0, slots := 0, locals := 82 } : Room) s m ([.ref aT, .int p0] : List Value).toArray below meth c s.heap [] 0 0 (MQ below (qI G (ty5 cI cJ cZ cO cA) A (wT aT (aS 0) (aH 0) (aE 0) (aX 0) ++ (wS cI cJ aS pr pu ta res.2.1 qu im su tc res.2.2.1 rc cn so ++ (wH cI cJ cO aH aK res.2.2.2.1 res.2.2.2.2.1 res.2.2.2.2.2 ++ ([] : va_W)))) res.1) ([.ref aT, .int p0] : List Value).toArray s 0 0 A) (F0 m 0 ls [])
  have h := hf
  unfold f_X4_forbid at h
  refine lv_iload_n hx hb dX4_forbid_0 rfl (lv_at hl 1 rfl) ?_
  refine lv_iconst (v := 0) hx hb dX4_forbid_1 (by decide) ?_
  refine lv_iconst (v := 1) hx hb dX4_forbid_2 (by decide) ?_
  refine lv_aload_n hx hb dX4_forbid_3 rfl (lv_at hl 0 rfl) ?_
  refine va_get (D := G) (ci := 4) (v := .ref (aS 0)) (C := RX4) (T := TX4) (N := 4) hx hb hts uX4 hown hK hP 0 rfl rfl 0 (by decide) (hts _ kw165) (fun _ h9 => h9) rfl dX4_forbid_4 ?_
  refine va_getN (D := G) (ci := 2) (v := .int tc) (C := RX2) (T := TX2) (N := 12) hx hb hts uX2 hown hK hP 1 rfl rfl 7 (by decide) (hE.nw nk41) (fun _ h9 => h9) rfl dX4_forbid_7 ?_
  refine lv_ishl hx hb dX4_forbid_10 ?_
  refine lv_iconst (v := 1) hx hb dX4_forbid_11 (by decide) ?_
  refine lv_isub hx hb dX4_forbid_12 ?_
  obtain ⟨q1, hq1, h⟩ := bd_s h
  refine kSi (n := 3) (As := [.int p0, .int 0, .int ((1 <<< (tc &&& 31)) - 1)]) (rest := []) hx hb hml hown hts (c_X4_isWithin l G cI cJ cZ cO cA e _ p0 0 ((1 <<< (tc &&& 31)) - 1) hq1) (tb_S kw185 kw186 kw1 kw187) rfl rfl (by decide +kernel) ⟨Nat.le_of_ble_eq_true rfl, Nat.le_of_ble_eq_true rfl⟩ hK hP hD hS hA hE rfl rfl hl.1 (Nat.le_of_ble_eq_true rfl) ⟨Nat.zero_le _, Nat.zero_le _⟩ dX4_forbid_13 (fun H locs hP hD hS => ?_)
  refine lv_istore_n (lv' := [(2, .int q1), (0, .ref aT), (1, .int p0)]) hx hb dX4_forbid_16 rfl hl (by decide) rfl (fun ls hl => ?_)
  refine lv_iload_n hx hb dX4_forbid_17 rfl (lv_at hl 0 rfl) ?_
  have hJ3 : ∀ (se_3 : Nat → Int32) (sc_3 : Int32) (hs_3 : Nat → SV) (ol_3 : Int32) (ct_3 : Int32) (H : Heap) (locs : List Loc) (ls : Array Slot), f_X4_forbid_j29 se_3 sc_3 hs_3 ol_3 ct_3 = some res → va_P G vwCl (wT aT (aS 0) (aH 0) (aE 0) (aX 0) ++ (wS cI cJ aS pr pu ta se_3 qu im su tc sc_3 rc cn so ++ (wH cI cJ cO aH aK hs_3 ol_3 ct_3 ++ ([] : va_W)))) H → va_D A (wT aT (aS 0) (aH 0) (aE 0) (aX 0) ++ (wS cI cJ aS pr pu ta se_3 qu im su tc sc_3 rc cn so ++ (wH cI cJ cO aH aK hs_3 ol_3 ct_3 ++ ([] : va_W)))) → va_S A s.heap H locs → lv_has ls 3 [] → W p l ev ({ frames := 3, cells := 0, slots := 0, locals := 82 } : Room) s m ([.ref aT, .int p0] : List Value).toArray below meth c H locs 0 0 (MQ below (qI G (ty5 cI cJ cZ cO cA) A (wT aT (aS 0) (aH 0) (aE 0) (aX 0) ++ (wS cI cJ aS pr pu ta res.2.1 qu im su tc res.2.2.1 rc cn so ++ (wH cI cJ cO aH aK res.2.2.2.1 res.2.2.2.2.1 res.2.2.2.2.2 ++ ([] : va_W)))) res.1) ([.ref aT, .int p0] : List Value).toArray s 0 0 A) (F0 m 29 ls []) := by
    intro se_3 sc_3 hs_3 ol_3 ct_3 H locs ls h hP hD hS hl
    unfold f_X4_forbid_j29 at h
    refine lv_ldc (v := (-2000000002)) hx hb hown (hts _ kw192) dX4_forbid_29 ?_
    rw [← Option.some.inj h]
    exact kri hx hb hr hlk rfl rfl hP hD hS hK dX4_forbid_31
  refine lv_if_eq (tgt := 29) hx hb dX4_forbid_18 (by decide) (fun c2 => ?_) (fun c2 => ?_)
  · replace h := (if_pos c2).symm.trans h
    exact hJ3 se sc hs ol ct _ _ _ h hP hD hS (lv_sub hl [] rfl)
  · replace h := (if_neg c2).symm.trans h
    refine lv_iload_n hx hb dX4_forbid_21 rfl (lv_at hl 2 rfl) ?_
    obtain ⟨q4, hq4, h⟩ := bd_s h
    refine kSi (n := 1) (As := [.int p0]) (rest := []) hx hb hml hown hts (c_J6_bitCount_0f7a4 l G cI cJ cZ cO cA e _ p0 hq4) (tb_S kw265 kw266 kw9 kw267) rfl rfl (by decide +kernel) ⟨Nat.le_of_ble_eq_true rfl, Nat.le_of_ble_eq_true rfl⟩ hK hP hD hS hA hE rfl rfl hl.1 (Nat.le_of_ble_eq_true rfl) ⟨Nat.zero_le _, Nat.zero_le _⟩ dX4_forbid_22 (fun H locs hP hD hS => ?_)
    refine lv_iconst (v := 2) hx hb dX4_forbid_25 (by decide) ?_
    refine lv_icmp_ge (tgt := 32) hx hb dX4_forbid_26 (by decide) (fun c5 => ?_) (fun c5 => ?_)
    · replace h := (if_pos c5).symm.trans h
      refine lv_aload_n hx hb dX4_forbid_32 rfl (lv_at hl 1 rfl) ?_
      refine va_get (D := G) (ci := 4) (v := .ref (aS 0)) (C := RX4) (T := TX4) (N := 4) hx hb hts uX4 hown hK hP 0 rfl rfl 0 (by decide) (hts _ kw165) (fun _ h9 => h9) rfl dX4_forbid_33 ?_
      refine lv_iload_n hx hb dX4_forbid_36 rfl (lv_at hl 2 rfl) ?_
      obtain ⟨q6, hq6, h⟩ := bd_s h
      refine kVi (n := 1) (C := RX2) (ws' := wT aT (aS 0) (aH 0) (aE 0) (aX 0) ++ (wS cI cJ aS pr pu ta se qu im su tc sc rc cn so ++ (wH cI cJ cO aH aK hs ol ct ++ ([] : va_W)))) (As := [.int p0]) (rest := []) hx hb hml hown hts (c_X2_placeOfSet l G cI cJ cZ cO cA e aS _ pr pu ta se qu im su tc sc rc cn so p0 hq6) (tb_V kw271 kw272 kw273 kw2 kw274) rfl rfl (by decide +kernel) ⟨Nat.le_of_ble_eq_true rfl, Nat.le_of_ble_eq_true rfl⟩ hK hP hD hS hA hE 1 rfl rfl [1, 2, 3, 4, 5, 6, 7, 8] [0, 9, 10, 11, 12, 13, 14, 15, 16, 17, 18, 19, 20, 21, 22, 23, 24, 25, 26, 27, 28, 29, 30, 31, 32, 33, 34, 35, 36, 37, 38, 39, 40, 41, 42, 43, 44, 45, 46, 47, 48, 49, 50] rfl rfl rfl 51 ⟨rfl, rfl⟩ (by decide +kernel) (by decide +kernel) rfl rfl hl.1 (Nat.le_of_ble_eq_true rfl) ⟨Nat.zero_le _, Nat.zero_le _⟩ dX4_forbid_37 (fun H locs hP hD hS => ?_)
      refine lv_if_lt (tgt := 46) hx hb dX4_forbid_40 (by decide) (fun c7 => ?_) (fun c7 => ?_)
      · replace h := (if_pos c7).symm.trans h
        refine lv_aload_n hx hb dX4_forbid_46 rfl (lv_at hl 1 rfl) ?_
        refine va_get (D := G) (ci := 4) (v := .ref (aS 0)) (C := RX4) (T := TX4) (N := 4) hx hb hts uX4 hown hK hP 0 rfl rfl 0 (by decide) (hts _ kw165) (fun _ h9 => h9) rfl dX4_forbid_47 ?_
        refine va_getN (D := G) (ci := 2) (v := .int sc) (C := RX2) (T := TX2) (N := 12) hx hb hts uX2 hown hK hP 1 rfl rfl 8 (by decide) (hE.nw nk44) (fun _ h9 => h9) rfl dX4_forbid_50 ?_
        refine lv_bipush (v := 8) hx hb dX4_forbid_53 (by decide) ?_
        refine lv_icmp_lt (tgt := 61) hx hb dX4_forbid_55 (by decide) (fun c8 => ?_) (fun c8 => ?_)
        · replace h := (if_pos c8).symm.trans h
          refine lv_aload_n hx hb dX4_forbid_61 rfl (lv_at hl 1 rfl) ?_
          refine va_get (D := G) (ci := 4) (v := .ref (aH 0)) (C := RX4) (T := TX4) (N := 4) hx hb hts uX4 hown hK hP 0 rfl rfl 1 (by decide) (hts _ kw166) (fun _ h9 => h9) rfl dX4_forbid_62 ?_
          refine lv_aload_n hx hb dX4_forbid_65 rfl (lv_at hl 1 rfl) ?_
          refine va_get (D := G) (ci := 4) (v := .ref (aS 0)) (C := RX4) (T := TX4) (N := 4) hx hb hts uX4 hown hK hP 0 rfl rfl 0 (by decide) (hts _ kw165) (fun _ h9 => h9) rfl dX4_forbid_66 ?_
          obtain ⟨q9, hq9, h⟩ := bd_s h
          refine kVv (n := 1) (C := RX0) (ws' := wT aT (aS 0) (aH 0) (aE 0) (aX 0) ++ (wS cI cJ aS pr pu ta se qu im su tc sc rc cn so ++ (wH cI cJ cO aH aK q9.1 q9.2.1 q9.2.2 ++ ([] : va_W)))) (As := [.ref (aS 0)]) (rest := []) hx hb hml hown hts (c_X0_keep l G cI cJ cZ cO cA e aS aH aK _ pr pu ta se qu im su tc sc rc cn so hs ol ct hq9) (tb_V kw194 kw195 kw196 kw4 kw197) rfl rfl (by decide +kernel) ⟨Nat.le_of_ble_eq_true rfl, Nat.le_of_ble_eq_true rfl⟩ hK hP hD hS hA hE 9 rfl rfl [1, 2, 3, 4, 5, 6, 7, 8, 9, 10, 11, 12, 13, 14, 15, 16, 17, 18, 19, 20, 21, 22, 23, 24, 25, 26, 27, 28, 29, 30, 31, 32, 33, 34, 35, 36, 37, 38, 39, 40, 41, 42, 43, 44, 45, 46, 47, 48, 49, 50] [0] rfl rfl rfl 51 ⟨rfl, rfl⟩ (by decide +kernel) (by decide +kernel) rfl rfl hl.1 (Nat.le_of_ble_eq_true rfl) ⟨Nat.zero_le _, Nat.zero_le _⟩ dX4_forbid_69 (fun H locs hP hD hS => ?_)
          refine lv_aload_n hx hb dX4_forbid_72 rfl (lv_at hl 1 rfl) ?_
          refine va_get (D := G) (ci := 4) (v := .ref (aS 0)) (C := RX4) (T := TX4) (N := 4) hx hb hts uX4 hown hK hP 0 rfl rfl 0 (by decide) (hts _ kw165) (fun _ h9 => h9) rfl dX4_forbid_73 ?_
          refine lv_iload_n hx hb dX4_forbid_76 rfl (lv_at hl 2 rfl) ?_
          obtain ⟨q10, hq10, h⟩ := bd_s h
          refine kVi (n := 1) (C := RX2) (ws' := wT aT (aS 0) (aH 0) (aE 0) (aX 0) ++ (wS cI cJ aS pr pu ta q10.2.1 qu im su tc q10.2.2 rc cn so ++ (wH cI cJ cO aH aK q9.1 q9.2.1 q9.2.2 ++ ([] : va_W)))) (As := [.int p0]) (rest := []) hx hb hml hown hts (c_X2_appendSet l G cI cJ cZ cO cA e aS _ pr pu ta se qu im su tc sc rc cn so p0 hq10) (tb_V kw276 kw277 kw278 kw2 kw279) rfl rfl (by decide +kernel) ⟨Nat.le_of_ble_eq_true rfl, Nat.le_of_ble_eq_true rfl⟩ hK hP hD hS hA hE 1 rfl rfl [1, 2, 3, 4, 5, 6, 7, 8] [0, 9, 10, 11, 12, 13, 14, 15, 16, 17, 18, 19, 20, 21, 22, 23, 24, 25, 26, 27, 28, 29, 30, 31, 32, 33, 34, 35, 36, 37, 38, 39, 40, 41, 42, 43, 44, 45, 46, 47, 48, 49, 50] rfl rfl rfl 51 ⟨rfl, rfl⟩ (by decide +kernel) (by decide +kernel) rfl rfl hl.1 (Nat.le_of_ble_eq_true rfl) ⟨Nat.zero_le _, Nat.zero_le _⟩ dX4_forbid_77 (fun H locs hP hD hS => ?_)
          rw [← Option.some.inj h]
          exact kri hx hb hr hlk rfl rfl hP hD hS hK dX4_forbid_80
        · replace h := (if_neg c8).symm.trans h
          refine lv_ldc (v := (-2000000004)) hx hb hown (hts _ kw193) dX4_forbid_58 ?_
          rw [← Option.some.inj h]
          exact kri hx hb hr hlk rfl rfl hP hD hS hK dX4_forbid_60
      · replace h := (if_neg c7).symm.trans h
        refine lv_ldc (v := (-2000000003)) hx hb hown (hts _ kw275) dX4_forbid_43 ?_
        rw [← Option.some.inj h]
        exact kri hx hb hr hlk rfl rfl hP hD hS hK dX4_forbid_45
    · replace h := (if_neg c5).symm.trans h
      exact hJ3 se sc hs ol ct _ _ _ h hP hD hS (lv_sub hl [] rfl)

/-! X2_removeSet -/
def f_X2_removeSet_b2 (sc : Int32) (z1 : (Nat → Int32) × Int32) : Option (((Nat → Int32) × Int32) ⊕ ((Nat → Int32))) :=
  if (sc - 1) ≤ z1.2 then (some (Sum.inr z1.1)) else (gd (ib (z1.2 + 1) 8) (gd (ib z1.2 8) (some (Sum.inl ((upd z1.1 z1.2.toNatClampNeg (z1.1 (z1.2 + 1).toNatClampNeg)), (z1.2 + 1))))))
def f_X2_removeSet (se : Nat → Int32) (sc : Int32) (p0 : Int32) : Option (Int32 × (Nat → Int32) × Int32) :=
  (lp (f_X2_removeSet_b2 sc) 1000 (se, p0)).bind (fun q1 => some ((sc - 1), q1, (sc - 1)))

set_option maxHeartbeats 4000000 in
set_option maxRecDepth 100000 in
theorem c_X2_removeSet (l : Launch) (G : va_G) (cI cJ cZ cO cA : ClassId) (e : Nat × Nat) (aS : Nat → Nat) (sz : Nat) (pr : Nat → Int32) (pu : Nat → Int32) (ta : Nat → Int32) (se : Nat → Int32) (qu : Nat → Int32) (im : Nat → Int32) (su : Nat → Int64) (tc : Int32) (sc : Int32) (rc : Int32) (cn : Int32) (so : Int32) (p0 : Int32) {res : Int32 × (Nat → Int32) × Int32} (hf : f_X2_removeSet se sc p0 = some res) : MetI l yX2_removeSet cX2_removeSet 3 .int ({ frames := 0, cells := 0, slots := 0, locals := 0 } : Room) [.ref (aS 0), .int p0] G (ty5 cI cJ cZ cO cA) e (wS cI cJ aS pr pu ta se qu im su tc sc rc cn so ++ ([] : va_W)) (wS cI cJ aS pr pu ta res.2.1 qu im su tc res.2.2 rc cn so ++ ([] : va_W)) sz res.1 := by
  refine g_body (QQ := fun A => (qI G (ty5 cI cJ cZ cO cA) A (wS cI cJ aS pr pu ta res.2.1 qu im su tc res.2.2 rc cn so ++ ([] : va_W)) res.1)) (own := RX2) (by decide) rfl (Nat.le_of_ble_eq_true rfl) ?_
  intro p ev s m below meth c A ls hx hb hr hml hown hts hlk hA hP hD hS hK hE hl
  have hl : lv_has ls 3 [(0, .ref (aS 0)), (1, .int p0)] := hl
  show W p l ev ({ frames := 0, cells := 0, slots := 0, locals := 0 } : Room) s m ([.ref (aS 0), .int p0] : List Value).toArray below meth c s.heap [] 0 0 (MQ below (qI G (ty5 cI cJ cZ cO cA) A (wS cI cJ aS pr pu ta res.2.1 qu im su tc res.2.2 rc cn so ++ ([] : va_W)) res.1) ([.ref (aS 0), .int p0] : List Value).toArray s 0 0 A) (F0 m 0 ls [])
  have h := hf
  unfold f_X2_removeSet at h
  refine lv_iload_n hx hb dX2_removeSet_0 rfl (lv_at hl 1 rfl) ?_
  refine lv_istore_n (lv' := [(2, .int p0), (0, .ref (aS 0)), (1, .int p0)]) hx hb dX2_removeSet_1 rfl hl (by decide) rfl (fun ls hl => ?_)
  obtain ⟨q1, hq1, h⟩ := bd_s h
  have hX1_0 : ∀ (x1 : (Nat → Int32)) (H : Heap) (locs : List Loc) (ls : Array Slot), x1 = q1 → va_P G vwCl (wS cI cJ aS pr pu ta x1 qu im su tc sc rc cn so ++ ([] : va_W)) H → va_D A (wS cI cJ aS pr pu ta x1 qu im su tc sc rc cn so ++ ([] : va_W)) → va_S A s.heap H locs → lv_has ls 3 [(0, .ref (aS 0))] → W p l ev ({ frames := 0, cells := 0, slots := 0, locals := 0 } : Room) s m ([.ref (aS 0), .int p0] : List Value).toArray below meth c H locs 0 0 (MQ below (qI G (ty5 cI cJ cZ cO cA) A (wS cI cJ aS pr pu ta res.2.1 qu im su tc res.2.2 rc cn so ++ ([] : va_W)) res.1) ([.ref (aS 0), .int p0] : List Value).toArray s 0 0 A) (F0 m 32 ls []) := by
    intro x1 H locs ls e1 hP hD hS hl
    replace e1 := e1.symm
    subst e1
    refine lv_aload_n hx hb dX2_removeSet_32 rfl (lv_at hl 0 rfl) ?_
    refine lv_dup hx hb dX2_removeSet_33 rfl ?_
    refine va_get (D := G) (ci := 2) (v := .int sc) (C := RX2) (T := TX2) (N := 12) hx hb hts uX2 hown hK hP 0 rfl rfl 8 (by decide) (hts _ kw43) (fun _ h9 => h9) rfl dX2_removeSet_34 ?_
    refine lv_iconst (v := 1) hx hb dX2_removeSet_37 (by decide) ?_
    refine lv_isub hx hb dX2_removeSet_38 ?_
    refine va_put (D := G) (ci := 2) (ty := .int) (v := .int (sc - 1)) (C := RX2) (T := TX2) (N := 12) hx hb hts uX2 tyX2 tyX2_ok nmX2 hown hK hP hD hS 0 rfl rfl 8 (by decide) (hts _ kw43) (fun _ h9 => h9) rfl (by decide +kernel) rfl rfl (Nat.le_of_ble_eq_true rfl) dX2_removeSet_39 (fun H locs hP hD hS => ?_)
    have hP : va_P G vwCl (wS cI cJ aS pr pu ta q1 qu im su tc (sc - 1) rc cn so ++ ([] : va_W)) H := hP
    have hD : va_D A (wS cI cJ aS pr pu ta q1 qu im su tc (sc - 1) rc cn so ++ ([] : va_W)) := hD
    refine lv_aload_n hx hb dX2_removeSet_42 rfl (lv_at hl 0 rfl) ?_
    refine va_get (D := G) (ci := 2) (v := .int (sc - 1)) (C := RX2) (T := TX2) (N := 12) hx hb hts uX2 hown hK hP 0 rfl rfl 8 (by decide) (hts _ kw43) (fun _ h9 => h9) rfl dX2_removeSet_43 ?_
    rw [← Option.some.inj h]
    exact kri hx hb hr hlk rfl rfl hP hD hS hK dX2_removeSet_46
  have hL1 : ∀ (n : Nat) (z1 : (Nat → Int32) × Int32) (H : Heap) (locs : List Loc) (ls : Array Slot), lp (f_X2_removeSet_b2 sc) n z1 = some q1 → va_P G vwCl (wS cI cJ aS pr pu ta z1.1 qu im su tc sc rc cn so ++ ([] : va_W)) H → va_D A (wS cI cJ aS pr pu ta z1.1 qu im su tc sc rc cn so ++ ([] : va_W)) → va_S A s.heap H locs → lv_has ls 3 [(0, .ref (aS 0)), (2, .int z1.2)] → W p l ev ({ frames := 0, cells := 0, slots := 0, locals := 0 } : Room) s m ([.ref (aS 0), .int p0] : List Value).toArray below meth c H locs 0 0 (MQ below (qI G (ty5 cI cJ cZ cO cA) A (wS cI cJ aS pr pu ta res.2.1 qu im su tc res.2.2 rc cn so ++ ([] : va_W)) res.1) ([.ref (aS 0), .int p0] : List Value).toArray s 0 0 A) (F0 m 2 ls []) := by
    intro n
    induction n with
    | zero => intro z1 H locs ls h; cases h
    | succ n ih1 =>
      intro z1 H locs ls h hP hD hS hl
      obtain ⟨o1, h, h1⟩ := lp_s h
      unfold f_X2_removeSet_b2 at h
      refine lv_iload_n hx hb dX2_removeSet_2 rfl (lv_at hl 1 rfl) ?_
      refine lv_aload_n hx hb dX2_removeSet_3 rfl (lv_at hl 0 rfl) ?_
      refine va_get (D := G) (ci := 2) (v := .int sc) (C := RX2) (T := TX2) (N := 12) hx hb hts uX2 hown hK hP 0 rfl rfl 8 (by decide) (hts _ kw43) (fun _ h9 => h9) rfl dX2_removeSet_4 ?_
      refine lv_iconst (v := 1) hx hb dX2_removeSet_7 (by decide) ?_
      refine lv_isub hx hb dX2_removeSet_8 ?_
      refine lv_icmp_ge (tgt := 32) hx hb dX2_removeSet_9 (by decide) (fun c2 => ?_) (fun c2 => ?_)
      · replace h := (if_pos c2).symm.trans h
        rw [← Option.some.inj h] at h1
        exact hX1_0 z1.1 _ _ _ (lp_x h1) hP hD hS (lv_sub hl [0] rfl)
      · replace h := (if_neg c2).symm.trans h
        refine lv_aload_n hx hb dX2_removeSet_12 rfl (lv_at hl 0 rfl) ?_
        refine va_get (D := G) (ci := 2) (v := .ref (aS 4)) (C := RX2) (T := TX2) (N := 12) hx hb hts uX2 hown hK hP 0 rfl rfl 3 (by decide) (hts _ kw33) (fun _ h9 => h9) rfl dX2_removeSet_13 ?_
        refine lv_iload_n hx hb dX2_removeSet_16 rfl (lv_at hl 1 rfl) ?_
        refine lv_aload_n hx hb dX2_removeSet_17 rfl (lv_at hl 0 rfl) ?_
        refine va_get (D := G) (ci := 2) (v := .ref (aS 4)) (C := RX2) (T := TX2) (N := 12) hx hb hts uX2 hown hK hP 0 rfl rfl 3 (by decide) (hts _ kw33) (fun _ h9 => h9) rfl dX2_removeSet_18 ?_
        refine lv_iload_n hx hb dX2_removeSet_21 rfl (lv_at hl 1 rfl) ?_
        refine lv_iconst (v := 1) hx hb dX2_removeSet_22 (by decide) ?_
        refine lv_iadd hx hb dX2_removeSet_23 ?_
        obtain ⟨g3, h⟩ := gd_s h
        refine va_iald hx hb hK hP 4 0 rfl rfl (ib_in g3) dX2_removeSet_24 ?_
        obtain ⟨g4, h⟩ := gd_s h
        refine va_iast hx hb hK hP hD hS 4 0 rfl rfl (ib_in g4) dX2_removeSet_25 (fun H locs hP hD hS => ?_)
        have hP : va_P G vwCl (wS cI cJ aS pr pu ta (upd z1.1 z1.2.toNatClampNeg (z1.1 (z1.2 + 1).toNatClampNeg)) qu im su tc sc rc cn so ++ ([] : va_W)) H := hP
        have hD : va_D A (wS cI cJ aS pr pu ta (upd z1.1 z1.2.toNatClampNeg (z1.1 (z1.2 + 1).toNatClampNeg)) qu im su tc sc rc cn so ++ ([] : va_W)) := hD
        refine lv_iinc (v := (z1.2 + 1)) (lv' := [(2, .int (z1.2 + 1)), (0, .ref (aS 0))]) hx hb dX2_removeSet_26 hl (k := 1) rfl rfl (by decide) rfl (fun ls hl => ?_)
        refine lv_goto (tgt := 2) hx hb dX2_removeSet_29 (by decide) ?_
        rw [← Option.some.inj h] at h1
        exact ih1 ((upd z1.1 z1.2.toNatClampNeg (z1.1 (z1.2 + 1).toNatClampNeg)), (z1.2 + 1)) _ _ _ (lp_b h1) hP hD hS (lv_sub hl [1, 0] rfl)
  exact hL1 _ (se, p0) _ _ _ hq1 hP hD hS (lv_sub hl [1, 0] rfl)

/-! X4_allow -/
def f_X4_allow (pr : Nat → Int32) (pu : Nat → Int32) (ta : Nat → Int32) (qu : Nat → Int32) (im : Nat → Int32) (su : Nat → Int64) (tc : Int32) (rc : Int32) (cn : Int32) (so : Int32) (se : Nat → Int32) (sc : Int32) (hs : Nat → SV) (ol : Int32) (ct : Int32) (p0 : Int32) : Option (Int32 × (Nat → Int32) × Int32 × (Nat → SV) × Int32 × Int32) :=
  (f_X2_placeOfSet se sc p0).bind (fun q1 => if 0 ≤ q1 then ((f_X0_keep pr pu ta se qu im su tc sc rc cn so hs ol ct).bind (fun q3 => (f_X2_removeSet se sc q1).bind (fun q4 => some (q4.1, q4.2.1, q4.2.2, q3.1, q3.2.1, q3.2.2)))) else (some ((-2000000003), se, sc, hs, ol, ct)))

set_option maxHeartbeats 4000000 in
set_option maxRecDepth 100000 in
theorem c_X4_allow (l : Launch) (G : va_G) (cI cJ cZ cO cA : ClassId) (e : Nat × Nat) (aT : Nat) (aS : Nat → Nat) (aH : Nat → Nat) (aE : Nat → Nat) (aX : Nat → Nat) (aK : Nat → Nat → Nat) (sz : Nat) (pr : Nat → Int32) (pu : Nat → Int32) (ta : Nat → Int32) (se : Nat → Int32) (qu : Nat → Int32) (im : Nat → Int32) (su : Nat → Int64) (tc : Int32) (sc : Int32) (rc : Int32) (cn : Int32) (so : Int32) (hs : Nat → SV) (ol : Int32) (ct : Int32) (p0 : Int32) {res : Int32 × (Nat → Int32) × Int32 × (Nat → SV) × Int32 × Int32} (hf : f_X4_allow pr pu ta qu im su tc rc cn so se sc hs ol ct p0 = some res) : MetI l yX4_allow cX4_allow 3 .int ({ frames := 3, cells := 0, slots := 0, locals := 82 } : Room) [.ref aT, .int p0] G (ty5 cI cJ cZ cO cA) e (wT aT (aS 0) (aH 0) (aE 0) (aX 0) ++ (wS cI cJ aS pr pu ta se qu im su tc sc rc cn so ++ (wH cI cJ cO aH aK hs ol ct ++ ([] : va_W)))) (wT aT (aS 0) (aH 0) (aE 0) (aX 0) ++ (wS cI cJ aS pr pu ta res.2.1 qu im su tc res.2.2.1 rc cn so ++ (wH cI cJ cO aH aK res.2.2.2.1 res.2.2.2.2.1 res.2.2.2.2.2 ++ ([] : va_W)))) sz res.1 := by
  refine g_body (QQ := fun A => (qI G (ty5 cI cJ cZ cO cA) A (wT aT (aS 0) (aH 0) (aE 0) (aX 0) ++ (wS cI cJ aS pr pu ta res.2.1 qu im su tc res.2.2.1 rc cn so ++ (wH cI cJ cO aH aK res.2.2.2.1 res.2.2.2.2.1 res.2.2.2.2.2 ++ ([] : va_W)))) res.1)) (own := RX4) (by decide) rfl (Nat.le_of_ble_eq_true rfl) ?_
  intro p ev s m below meth c A ls hx hb hr hml hown hts hlk hA hP hD hS hK hE hl
  have hl : lv_has ls 3 [(0, .ref aT), (1, .int p0)] := hl
  show W p l ev ({ frames := 3, cells := 0, slots := 0, locals := 82 } : Room) s m ([.ref aT, .int p0] : List Value).toArray below meth c s.heap [] 0 0 (MQ below (qI G (ty5 cI cJ cZ cO cA) A (wT aT (aS 0) (aH 0) (aE 0) (aX 0) ++ (wS cI cJ aS pr pu ta res.2.1 qu im su tc res.2.2.1 rc cn so ++ (wH cI cJ cO aH aK res.2.2.2.1 res.2.2.2.2.1 res.2.2.2.2.2 ++ ([] : va_W)))) res.1) ([.ref aT, .int p0] : List Value).toArray s 0 0 A) (F0 m 0 ls [])
  have h := hf
  unfold f_X4_allow at h
  refine lv_aload_n hx hb dX4_allow_0 rfl (lv_at hl 0 rfl) ?_
  refine va_get (D := G) (ci := 4) (v := .ref (aS 0)) (C := RX4) (T := TX4) (N := 4) hx hb hts uX4 hown hK hP 0 rfl rfl 0 (by decide) (hts _ kw165) (fun _ h9 => h9) rfl dX4_allow_1 ?_
  refine lv_iload_n hx hb dX4_allow_4 rfl (lv_at hl 1 rfl) ?_
  obtain ⟨q1, hq1, h⟩ := bd_s h
  refine kVi (n := 1) (C := RX2) (ws' := wT aT (aS 0) (aH 0) (aE 0) (aX 0) ++ (wS cI cJ aS pr pu ta se qu im su tc sc rc cn so ++ (wH cI cJ cO aH aK hs ol ct ++ ([] : va_W)))) (As := [.int p0]) (rest := []) hx hb hml hown hts (c_X2_placeOfSet l G cI cJ cZ cO cA e aS _ pr pu ta se qu im su tc sc rc cn so p0 hq1) (tb_V kw271 kw272 kw273 kw2 kw274) rfl rfl (by decide +kernel) ⟨Nat.le_of_ble_eq_true rfl, Nat.le_of_ble_eq_true rfl⟩ hK hP hD hS hA hE 1 rfl rfl [1, 2, 3, 4, 5, 6, 7, 8] [0, 9, 10, 11, 12, 13, 14, 15, 16, 17, 18, 19, 20, 21, 22, 23, 24, 25, 26, 27, 28, 29, 30, 31, 32, 33, 34, 35, 36, 37, 38, 39, 40, 41, 42, 43, 44, 45, 46, 47, 48, 49, 50] rfl rfl rfl 51 ⟨rfl, rfl⟩ (by decide +kernel) (by decide +kernel) rfl rfl hl.1 (Nat.le_of_ble_eq_true rfl) ⟨Nat.zero_le _, Nat.zero_le _⟩ dX4_allow_5 (fun H locs hP hD hS => ?_)
  refine lv_istore_n (lv' := [(2, .int q1), (0, .ref aT), (1, .int p0)]) hx hb dX4_allow_8 rfl hl (by decide) rfl (fun ls hl => ?_)
  refine lv_iload_n hx hb dX4_allow_9 rfl (lv_at hl 0 rfl) ?_
  refine lv_if_ge (tgt := 16) hx hb dX4_allow_10 (by decide) (fun c2 => ?_) (fun c2 => ?_)
  · replace h := (if_pos c2).symm.trans h
    refine lv_aload_n hx hb dX4_allow_16 rfl (lv_at hl 1 rfl) ?_
    refine va_get (D := G) (ci := 4) (v := .ref (aH 0)) (C := RX4) (T := TX4) (N := 4) hx hb hts uX4 hown hK hP 0 rfl rfl 1 (by decide) (hts _ kw166) (fun _ h9 => h9) rfl dX4_allow_17 ?_
    refine lv_aload_n hx hb dX4_allow_20 rfl (lv_at hl 1 rfl) ?_
    refine va_get (D := G) (ci := 4) (v := .ref (aS 0)) (C := RX4) (T := TX4) (N := 4) hx hb hts uX4 hown hK hP 0 rfl rfl 0 (by decide) (hts _ kw165) (fun _ h9 => h9) rfl dX4_allow_21 ?_
    obtain ⟨q3, hq3, h⟩ := bd_s h
    refine kVv (n := 1) (C := RX0) (ws' := wT aT (aS 0) (aH 0) (aE 0) (aX 0) ++ (wS cI cJ aS pr pu ta se qu im su tc sc rc cn so ++ (wH cI cJ cO aH aK q3.1 q3.2.1 q3.2.2 ++ ([] : va_W)))) (As := [.ref (aS 0)]) (rest := []) hx hb hml hown hts (c_X0_keep l G cI cJ cZ cO cA e aS aH aK _ pr pu ta se qu im su tc sc rc cn so hs ol ct hq3) (tb_V kw194 kw195 kw196 kw4 kw197) rfl rfl (by decide +kernel) ⟨Nat.le_of_ble_eq_true rfl, Nat.le_of_ble_eq_true rfl⟩ hK hP hD hS hA hE 9 rfl rfl [1, 2, 3, 4, 5, 6, 7, 8, 9, 10, 11, 12, 13, 14, 15, 16, 17, 18, 19, 20, 21, 22, 23, 24, 25, 26, 27, 28, 29, 30, 31, 32, 33, 34, 35, 36, 37, 38, 39, 40, 41, 42, 43, 44, 45, 46, 47, 48, 49, 50] [0] rfl rfl rfl 51 ⟨rfl, rfl⟩ (by decide +kernel) (by decide +kernel) rfl rfl hl.1 (Nat.le_of_ble_eq_true rfl) ⟨Nat.zero_le _, Nat.zero_le _⟩ dX4_allow_24 (fun H locs hP hD hS => ?_)
    refine lv_aload_n hx hb dX4_allow_27 rfl (lv_at hl 1 rfl) ?_
    refine va_get (D := G) (ci := 4) (v := .ref (aS 0)) (C := RX4) (T := TX4) (N := 4) hx hb hts uX4 hown hK hP 0 rfl rfl 0 (by decide) (hts _ kw165) (fun _ h9 => h9) rfl dX4_allow_28 ?_
    refine lv_iload_n hx hb dX4_allow_31 rfl (lv_at hl 0 rfl) ?_
    obtain ⟨q4, hq4, h⟩ := bd_s h
    refine kVi (n := 1) (C := RX2) (ws' := wT aT (aS 0) (aH 0) (aE 0) (aX 0) ++ (wS cI cJ aS pr pu ta q4.2.1 qu im su tc q4.2.2 rc cn so ++ (wH cI cJ cO aH aK q3.1 q3.2.1 q3.2.2 ++ ([] : va_W)))) (As := [.int q1]) (rest := []) hx hb hml hown hts (c_X2_removeSet l G cI cJ cZ cO cA e aS _ pr pu ta se qu im su tc sc rc cn so q1 hq4) (tb_V kw552 kw553 kw554 kw2 kw555) rfl rfl (by decide +kernel) ⟨Nat.le_of_ble_eq_true rfl, Nat.le_of_ble_eq_true rfl⟩ hK hP hD hS hA hE 1 rfl rfl [1, 2, 3, 4, 5, 6, 7, 8] [0, 9, 10, 11, 12, 13, 14, 15, 16, 17, 18, 19, 20, 21, 22, 23, 24, 25, 26, 27, 28, 29, 30, 31, 32, 33, 34, 35, 36, 37, 38, 39, 40, 41, 42, 43, 44, 45, 46, 47, 48, 49, 50] rfl rfl rfl 51 ⟨rfl, rfl⟩ (by decide +kernel) (by decide +kernel) rfl rfl hl.1 (Nat.le_of_ble_eq_true rfl) ⟨Nat.zero_le _, Nat.zero_le _⟩ dX4_allow_32 (fun H locs hP hD hS => ?_)
    rw [← Option.some.inj h]
    exact kri hx hb hr hlk rfl rfl hP hD hS hK dX4_allow_35
  · replace h := (if_neg c2).symm.trans h
    refine lv_ldc (v := (-2000000003)) hx hb hown (hts _ kw275) dX4_allow_13 ?_
    rw [← Option.some.inj h]
    exact kri hx hb hr hlk rfl rfl hP hD hS hK dX4_allow_15

/-! X2_forbids -/
def f_X2_forbids_b2 (se : Nat → Int32) (sc : Int32) (v1 : Int32) (z1 : Int32) : Option ((Int32) ⊕ ((Unit) ⊕ (Unit))) :=
  if sc ≤ z1 then (some (Sum.inr (Sum.inr ()))) else (gd (ib z1 8) (gd (ib z1 8) (if (v1 &&& (se z1.toNatClampNeg)) = (se z1.toNatClampNeg) then (some (Sum.inr (Sum.inl ()))) else (some (Sum.inl (z1 + 1))))))
def f_X2_forbids (se : Nat → Int32) (sc : Int32) (p0 : Int32) : Option (Int32) :=
  (lp (f_X2_forbids_b2 se sc p0) 1000 0).bind (fun q1 => Sum.elim (fun t1 => some 1) (fun t1 => some 0) q1)

set_option maxHeartbeats 4000000 in
set_option maxRecDepth 100000 in
theorem c_X2_forbids (l : Launch) (G : va_G) (cI cJ cZ cO cA : ClassId) (e : Nat × Nat) (aS : Nat → Nat) (sz : Nat) (pr : Nat → Int32) (pu : Nat → Int32) (ta : Nat → Int32) (se : Nat → Int32) (qu : Nat → Int32) (im : Nat → Int32) (su : Nat → Int64) (tc : Int32) (sc : Int32) (rc : Int32) (cn : Int32) (so : Int32) (p0 : Int32) {res : Int32} (hf : f_X2_forbids se sc p0 = some res) : MetI l yX2_forbids cX2_forbids 3 .boolean ({ frames := 0, cells := 0, slots := 0, locals := 0 } : Room) [.ref (aS 0), .int p0] G (ty5 cI cJ cZ cO cA) e (wS cI cJ aS pr pu ta se qu im su tc sc rc cn so ++ ([] : va_W)) (wS cI cJ aS pr pu ta se qu im su tc sc rc cn so ++ ([] : va_W)) sz res := by
  refine g_body (QQ := fun A => (qI G (ty5 cI cJ cZ cO cA) A (wS cI cJ aS pr pu ta se qu im su tc sc rc cn so ++ ([] : va_W)) res)) (own := RX2) (by decide) rfl (Nat.le_of_ble_eq_true rfl) ?_
  intro p ev s m below meth c A ls hx hb hr hml hown hts hlk hA hP hD hS hK hE hl
  have hl : lv_has ls 3 [(0, .ref (aS 0)), (1, .int p0)] := hl
  show W p l ev ({ frames := 0, cells := 0, slots := 0, locals := 0 } : Room) s m ([.ref (aS 0), .int p0] : List Value).toArray below meth c s.heap [] 0 0 (MQ below (qI G (ty5 cI cJ cZ cO cA) A (wS cI cJ aS pr pu ta se qu im su tc sc rc cn so ++ ([] : va_W)) res) ([.ref (aS 0), .int p0] : List Value).toArray s 0 0 A) (F0 m 0 ls [])
  have h := hf
  unfold f_X2_forbids at h
  refine lv_iconst (v := 0) hx hb dX2_forbids_0 (by decide) ?_
  refine lv_istore_n (lv' := [(2, .int 0), (0, .ref (aS 0)), (1, .int p0)]) hx hb dX2_forbids_1 rfl hl (by decide) rfl (fun ls hl => ?_)
  obtain ⟨q1, hq1, h⟩ := bd_s h
  have hX1_0 : ∀ (t1 : Unit) (H : Heap) (locs : List Loc) (ls : Array Slot), Sum.inl t1 = q1 → va_P G vwCl (wS cI cJ aS pr pu ta se qu im su tc sc rc cn so ++ ([] : va_W)) H → va_D A (wS cI cJ aS pr pu ta se qu im su tc sc rc cn so ++ ([] : va_W)) → va_S A s.heap H locs → lv_has ls 3 [] → W p l ev ({ frames := 0, cells := 0, slots := 0, locals := 0 } : Room) s m ([.ref (aS 0), .int p0] : List Value).toArray below meth c H locs 0 0 (MQ below (qI G (ty5 cI cJ cZ cO cA) A (wS cI cJ aS pr pu ta se qu im su tc sc rc cn so ++ ([] : va_W)) res) ([.ref (aS 0), .int p0] : List Value).toArray s 0 0 A) (F0 m 27 ls []) := by
    intro t1 H locs ls e1 hP hD hS hl
    rw [← e1] at h
    replace h := se_l h
    refine lv_iconst (v := 1) hx hb dX2_forbids_27 (by decide) ?_
    rw [← Option.some.inj h]
    exact kri hx hb hr hlk rfl rfl hP hD hS hK dX2_forbids_28
  have hX1_1 : ∀ (t1 : Unit) (H : Heap) (locs : List Loc) (ls : Array Slot), Sum.inr t1 = q1 → va_P G vwCl (wS cI cJ aS pr pu ta se qu im su tc sc rc cn so ++ ([] : va_W)) H → va_D A (wS cI cJ aS pr pu ta se qu im su tc sc rc cn so ++ ([] : va_W)) → va_S A s.heap H locs → lv_has ls 3 [] → W p l ev ({ frames := 0, cells := 0, slots := 0, locals := 0 } : Room) s m ([.ref (aS 0), .int p0] : List Value).toArray below meth c H locs 0 0 (MQ below (qI G (ty5 cI cJ cZ cO cA) A (wS cI cJ aS pr pu ta se qu im su tc sc rc cn so ++ ([] : va_W)) res) ([.ref (aS 0), .int p0] : List Value).toArray s 0 0 A) (F0 m 35 ls []) := by
    intro t1 H locs ls e1 hP hD hS hl
    rw [← e1] at h
    replace h := se_r h
    refine lv_iconst (v := 0) hx hb dX2_forbids_35 (by decide) ?_
    rw [← Option.some.inj h]
    exact kri hx hb hr hlk rfl rfl hP hD hS hK dX2_forbids_36
  have hL1 : ∀ (n : Nat) (z1 : Int32) (H : Heap) (locs : List Loc) (ls : Array Slot), lp (f_X2_forbids_b2 se sc p0) n z1 = some q1 → va_P G vwCl (wS cI cJ aS pr pu ta se qu im su tc sc rc cn so ++ ([] : va_W)) H → va_D A (wS cI cJ aS pr pu ta se qu im su tc sc rc cn so ++ ([] : va_W)) → va_S A s.heap H locs → lv_has ls 3 [(0, .ref (aS 0)), (1, .int p0), (2, .int z1)] → W p l ev ({ frames := 0, cells := 0, slots := 0, locals := 0 } : Room) s m ([.ref (aS 0), .int p0] : List Value).toArray below meth c H locs 0 0 (MQ below (qI G (ty5 cI cJ cZ cO cA) A (wS cI cJ aS pr pu ta se qu im su tc sc rc cn so ++ ([] : va_W)) res) ([.ref (aS 0), .int p0] : List Value).toArray s 0 0 A) (F0 m 2 ls []) := by
    intro n
    induction n with
    | zero => intro z1 H locs ls h; cases h
    | succ n ih1 =>
      intro z1 H locs ls h hP hD hS hl
      obtain ⟨o1, h, h1⟩ := lp_s h
      unfold f_X2_forbids_b2 at h
      refine lv_iload_n hx hb dX2_forbids_2 rfl (lv_at hl 2 rfl) ?_
      refine lv_aload_n hx hb dX2_forbids_3 rfl (lv_at hl 0 rfl) ?_
      refine va_get (D := G) (ci := 2) (v := .int sc) (C := RX2) (T := TX2) (N := 12) hx hb hts uX2 hown hK hP 0 rfl rfl 8 (by decide) (hts _ kw43) (fun _ h9 => h9) rfl dX2_forbids_4 ?_
      refine lv_icmp_ge (tgt := 35) hx hb dX2_forbids_7 (by decide) (fun c2 => ?_) (fun c2 => ?_)
      · replace h := (if_pos c2).symm.trans h
        rw [← Option.some.inj h] at h1
        exact hX1_1 () _ _ _ (lp_x h1) hP hD hS (lv_sub hl [] rfl)
      · replace h := (if_neg c2).symm.trans h
        refine lv_iload_n hx hb dX2_forbids_10 rfl (lv_at hl 1 rfl) ?_
        refine lv_aload_n hx hb dX2_forbids_11 rfl (lv_at hl 0 rfl) ?_
        refine va_get (D := G) (ci := 2) (v := .ref (aS 4)) (C := RX2) (T := TX2) (N := 12) hx hb hts uX2 hown hK hP 0 rfl rfl 3 (by decide) (hts _ kw33) (fun _ h9 => h9) rfl dX2_forbids_12 ?_
        refine lv_iload_n hx hb dX2_forbids_15 rfl (lv_at hl 2 rfl) ?_
        obtain ⟨g3, h⟩ := gd_s h
        refine va_iald hx hb hK hP 4 0 rfl rfl (ib_in g3) dX2_forbids_16 ?_
        refine lv_iand hx hb dX2_forbids_17 ?_
        refine lv_aload_n hx hb dX2_forbids_18 rfl (lv_at hl 0 rfl) ?_
        refine va_get (D := G) (ci := 2) (v := .ref (aS 4)) (C := RX2) (T := TX2) (N := 12) hx hb hts uX2 hown hK hP 0 rfl rfl 3 (by decide) (hts _ kw33) (fun _ h9 => h9) rfl dX2_forbids_19 ?_
        refine lv_iload_n hx hb dX2_forbids_22 rfl (lv_at hl 2 rfl) ?_
        obtain ⟨g4, h⟩ := gd_s h
        refine va_iald hx hb hK hP 4 0 rfl rfl (ib_in g4) dX2_forbids_23 ?_
        refine lv_icmp_ne (tgt := 29) hx hb dX2_forbids_24 (by decide) (fun c5 => ?_) (fun c5 => ?_)
        · replace h := (if_neg c5).symm.trans h
          refine lv_iinc (v := (z1 + 1)) (lv' := [(2, .int (z1 + 1)), (0, .ref (aS 0)), (1, .int p0)]) hx hb dX2_forbids_29 hl (k := 2) rfl rfl (by decide) rfl (fun ls hl => ?_)
          refine lv_goto (tgt := 2) hx hb dX2_forbids_32 (by decide) ?_
          rw [← Option.some.inj h] at h1
          exact ih1 (z1 + 1) _ _ _ (lp_b h1) hP hD hS (lv_sub hl [1, 2, 0] rfl)
        · replace h := (if_pos c5).symm.trans h
          rw [← Option.some.inj h] at h1
          exact hX1_0 () _ _ _ (lp_x h1) hP hD hS (lv_sub hl [] rfl)
  exact hL1 _ 0 _ _ _ hq1 hP hD hS (lv_sub hl [1, 2, 0] rfl)

/-! X4_isForbidden -/
def f_X4_isForbidden (pr : Nat → Int32) (ta : Nat → Int32) (se : Nat → Int32) (tc : Int32) (sc : Int32) (p0 : Int32) : Option (Int32) :=
  (f_X4_isWithin p0 0 255).bind (fun q1 => if q1 = 0 then (some (-2000000002)) else ((f_X2_runningMask pr ta tc).bind (fun q3 => (f_X2_forbids se sc (p0 ||| q3)).bind (fun q4 => if q4 = 0 then (some 0) else (some 1)))))

set_option maxHeartbeats 4000000 in
set_option maxRecDepth 100000 in
theorem c_X4_isForbidden (l : Launch) (G : va_G) (cI cJ cZ cO cA : ClassId) (e : Nat × Nat) (aT : Nat) (aS : Nat → Nat) (aH : Nat → Nat) (aE : Nat → Nat) (aX : Nat → Nat) (sz : Nat) (pr : Nat → Int32) (pu : Nat → Int32) (ta : Nat → Int32) (se : Nat → Int32) (qu : Nat → Int32) (im : Nat → Int32) (su : Nat → Int64) (tc : Int32) (sc : Int32) (rc : Int32) (cn : Int32) (so : Int32) (p0 : Int32) {res : Int32} (hf : f_X4_isForbidden pr ta se tc sc p0 = some res) : MetI l yX4_isForbidden cX4_isForbidden 2 .int ({ frames := 4, cells := 0, slots := 0, locals := 86 } : Room) [.ref aT, .int p0] G (ty5 cI cJ cZ cO cA) e (wT aT (aS 0) (aH 0) (aE 0) (aX 0) ++ (wS cI cJ aS pr pu ta se qu im su tc sc rc cn so ++ ([] : va_W))) (wT aT (aS 0) (aH 0) (aE 0) (aX 0) ++ (wS cI cJ aS pr pu ta se qu im su tc sc rc cn so ++ ([] : va_W))) sz res := by
  refine g_body (QQ := fun A => (qI G (ty5 cI cJ cZ cO cA) A (wT aT (aS 0) (aH 0) (aE 0) (aX 0) ++ (wS cI cJ aS pr pu ta se qu im su tc sc rc cn so ++ ([] : va_W))) res)) (own := RX4) (by decide) rfl (Nat.le_of_ble_eq_true rfl) ?_
  intro p ev s m below meth c A ls hx hb hr hml hown hts hlk hA hP hD hS hK hE hl
  have hl : lv_has ls 2 [(0, .ref aT), (1, .int p0)] := hl
  show W p l ev ({ frames := 4, cells := 0, slots := 0, locals := 86 } : Room) s m ([.ref aT, .int p0] : List Value).toArray below meth c s.heap [] 0 0 (MQ below (qI G (ty5 cI cJ cZ cO cA) A (wT aT (aS 0) (aH 0) (aE 0) (aX 0) ++ (wS cI cJ aS pr pu ta se qu im su tc sc rc cn so ++ ([] : va_W))) res) ([.ref aT, .int p0] : List Value).toArray s 0 0 A) (F0 m 0 ls [])
  have h := hf
  unfold f_X4_isForbidden at h
  refine lv_iload_n hx hb dX4_isForbidden_0 rfl (lv_at hl 1 rfl) ?_
  refine lv_iconst (v := 0) hx hb dX4_isForbidden_1 (by decide) ?_
  refine lv_sipush (v := 255) hx hb dX4_isForbidden_2 (by decide) ?_
  obtain ⟨q1, hq1, h⟩ := bd_s h
  refine kSi (n := 3) (As := [.int p0, .int 0, .int 255]) (rest := []) hx hb hml hown hts (c_X4_isWithin l G cI cJ cZ cO cA e _ p0 0 255 hq1) (tb_S kw185 kw186 kw1 kw187) rfl rfl (by decide +kernel) ⟨Nat.le_of_ble_eq_true rfl, Nat.le_of_ble_eq_true rfl⟩ hK hP hD hS hA hE rfl rfl hl.1 (Nat.le_of_ble_eq_true rfl) ⟨Nat.zero_le _, Nat.zero_le _⟩ dX4_isForbidden_5 (fun H locs hP hD hS => ?_)
  refine lv_if_ne (tgt := 14) hx hb dX4_isForbidden_8 (by decide) (fun c2 => ?_) (fun c2 => ?_)
  · replace h := (if_neg c2).symm.trans h
    refine lv_aload_n hx hb dX4_isForbidden_14 rfl (lv_at hl 0 rfl) ?_
    refine va_get (D := G) (ci := 4) (v := .ref (aS 0)) (C := RX4) (T := TX4) (N := 4) hx hb hts uX4 hown hK hP 0 rfl rfl 0 (by decide) (hts _ kw165) (fun _ h9 => h9) rfl dX4_isForbidden_15 ?_
    refine lv_iload_n hx hb dX4_isForbidden_18 rfl (lv_at hl 1 rfl) ?_
    refine lv_aload_n hx hb dX4_isForbidden_19 rfl (lv_at hl 0 rfl) ?_
    refine va_get (D := G) (ci := 4) (v := .ref (aS 0)) (C := RX4) (T := TX4) (N := 4) hx hb hts uX4 hown hK hP 0 rfl rfl 0 (by decide) (hts _ kw165) (fun _ h9 => h9) rfl dX4_isForbidden_20 ?_
    obtain ⟨q3, hq3, h⟩ := bd_s h
    refine kVi (n := 0) (C := RX2) (ws' := wT aT (aS 0) (aH 0) (aE 0) (aX 0) ++ (wS cI cJ aS pr pu ta se qu im su tc sc rc cn so ++ ([] : va_W))) (As := []) (rest := [.int p0, .ref (aS 0)]) hx hb hml hown hts (c_X2_runningMask l G cI cJ cZ cO cA e aS _ pr pu ta se qu im su tc sc rc cn so hq3) (tb_V kw284 kw230 kw231 kw2 kw232) rfl rfl (by decide +kernel) ⟨Nat.le_of_ble_eq_true rfl, Nat.le_of_ble_eq_true rfl⟩ hK hP hD hS hA hE 1 rfl rfl [1, 2, 3, 4, 5, 6, 7, 8] [0] rfl rfl rfl 9 ⟨rfl, rfl⟩ (by decide +kernel) (by decide +kernel) rfl rfl hl.1 (Nat.le_of_ble_eq_true rfl) ⟨Nat.zero_le _, Nat.zero_le _⟩ dX4_isForbidden_23 (fun H locs hP hD hS => ?_)
    refine lv_ior hx hb dX4_isForbidden_26 ?_
    obtain ⟨q4, hq4, h⟩ := bd_s h
    refine kVi (n := 1) (C := RX2) (ws' := wT aT (aS 0) (aH 0) (aE 0) (aX 0) ++ (wS cI cJ aS pr pu ta se qu im su tc sc rc cn so ++ ([] : va_W))) (As := [.int (p0 ||| q3)]) (rest := []) hx hb hml hown hts (c_X2_forbids l G cI cJ cZ cO cA e aS _ pr pu ta se qu im su tc sc rc cn so (p0 ||| q3) hq4) (tb_V kw285 kw286 kw287 kw2 kw288) rfl rfl (by decide +kernel) ⟨Nat.le_of_ble_eq_true rfl, Nat.le_of_ble_eq_true rfl⟩ hK hP hD hS hA hE 1 rfl rfl [1, 2, 3, 4, 5, 6, 7, 8] [0] rfl rfl rfl 9 ⟨rfl, rfl⟩ (by decide +kernel) (by decide +kernel) rfl rfl hl.1 (Nat.le_of_ble_eq_true rfl) ⟨Nat.zero_le _, Nat.zero_le _⟩ dX4_isForbidden_27 (fun H locs hP hD hS => ?_)
    refine lv_if_eq (tgt := 37) hx hb dX4_isForbidden_30 (by decide) (fun c5 => ?_) (fun c5 => ?_)
    · replace h := (if_pos c5).symm.trans h
      refine lv_iconst (v := 0) hx hb dX4_isForbidden_37 (by decide) ?_
      rw [← Option.some.inj h]
      exact kri hx hb hr hlk rfl rfl hP hD hS hK dX4_isForbidden_38
    · replace h := (if_neg c5).symm.trans h
      refine lv_iconst (v := 1) hx hb dX4_isForbidden_33 (by decide) ?_
      refine lv_goto (tgt := 38) hx hb dX4_isForbidden_34 (by decide) ?_
      rw [← Option.some.inj h]
      exact kri hx hb hr hlk rfl rfl hP hD hS hK dX4_isForbidden_38
  · replace h := (if_pos c2).symm.trans h
    refine lv_ldc (v := (-2000000002)) hx hb hown (hts _ kw192) dX4_isForbidden_11 ?_
    rw [← Option.some.inj h]
    exact kri hx hb hr hlk rfl rfl hP hD hS hK dX4_isForbidden_13

/-! X4_areAtMost -/
def f_X4_areAtMost (p0 : Int32) (p1 : Int32) (p2 : Int32) (p3 : Int32) : Option (Int32) :=
  (f_X4_isAtMost p0 p3).bind (fun q1 => if q1 = 0 then (some 0) else ((f_X4_isAtMost p1 p3).bind (fun q3 => if q3 = 0 then (some 0) else ((f_X4_isAtMost p2 p3).bind (fun q5 => if q5 = 0 then (some 0) else (some 1))))))

set_option maxHeartbeats 4000000 in
set_option maxRecDepth 100000 in
theorem c_X4_areAtMost (l : Launch) (G : va_G) (cI cJ cZ cO cA : ClassId) (e : Nat × Nat) (sz : Nat) (p0 : Int32) (p1 : Int32) (p2 : Int32) (p3 : Int32) {res : Int32} (hf : f_X4_areAtMost p0 p1 p2 p3 = some res) : MetI l yX4_areAtMost cX4_areAtMost 4 .boolean ({ frames := 2, cells := 0, slots := 0, locals := 43 } : Room) [.int p0, .int p1, .int p2, .int p3] G (ty5 cI cJ cZ cO cA) e (([] : va_W)) (([] : va_W)) sz res := by
  refine g_body (QQ := fun A => (qI G (ty5 cI cJ cZ cO cA) A (([] : va_W)) res)) (own := RX4) (by decide) rfl (Nat.le_of_ble_eq_true rfl) ?_
  intro p ev s m below meth c A ls hx hb hr hml hown hts hlk hA hP hD hS hK hE hl
  have hl : lv_has ls 4 [(0, .int p0), (1, .int p1), (2, .int p2), (3, .int p3)] := hl
  show W p l ev ({ frames := 2, cells := 0, slots := 0, locals := 43 } : Room) s m ([.int p0, .int p1, .int p2, .int p3] : List Value).toArray below meth c s.heap [] 0 0 (MQ below (qI G (ty5 cI cJ cZ cO cA) A (([] : va_W)) res) ([.int p0, .int p1, .int p2, .int p3] : List Value).toArray s 0 0 A) (F0 m 0 ls [])
  have h := hf
  unfold f_X4_areAtMost at h
  refine lv_iload_n hx hb dX4_areAtMost_0 rfl (lv_at hl 0 rfl) ?_
  refine lv_iload_n hx hb dX4_areAtMost_1 rfl (lv_at hl 3 rfl) ?_
  obtain ⟨q1, hq1, h⟩ := bd_s h
  refine kSi (n := 2) (As := [.int p0, .int p3]) (rest := []) hx hb hml hown hts (c_X4_isAtMost l G cI cJ cZ cO cA e _ p0 p3 hq1) (tb_S kw189 kw190 kw1 kw191) rfl rfl (by decide +kernel) ⟨Nat.le_of_ble_eq_true rfl, Nat.le_of_ble_eq_true rfl⟩ hK hP hD hS hA hE rfl rfl hl.1 (Nat.le_of_ble_eq_true rfl) ⟨Nat.zero_le _, Nat.zero_le _⟩ dX4_areAtMost_2 (fun H locs hP hD hS => ?_)
  refine lv_if_eq (tgt := 28) hx hb dX4_areAtMost_5 (by decide) (fun c2 => ?_) (fun c2 => ?_)
  · replace h := (if_pos c2).symm.trans h
    refine lv_iconst (v := 0) hx hb dX4_areAtMost_28 (by decide) ?_
    rw [← Option.some.inj h]
    exact kri hx hb hr hlk rfl rfl hP hD hS hK dX4_areAtMost_29
  · replace h := (if_neg c2).symm.trans h
    refine lv_iload_n hx hb dX4_areAtMost_8 rfl (lv_at hl 1 rfl) ?_
    refine lv_iload_n hx hb dX4_areAtMost_9 rfl (lv_at hl 3 rfl) ?_
    obtain ⟨q3, hq3, h⟩ := bd_s h
    refine kSi (n := 2) (As := [.int p1, .int p3]) (rest := []) hx hb hml hown hts (c_X4_isAtMost l G cI cJ cZ cO cA e _ p1 p3 hq3) (tb_S kw189 kw190 kw1 kw191) rfl rfl (by decide +kernel) ⟨Nat.le_of_ble_eq_true rfl, Nat.le_of_ble_eq_true rfl⟩ hK hP hD hS hA hE rfl rfl hl.1 (Nat.le_of_ble_eq_true rfl) ⟨Nat.zero_le _, Nat.zero_le _⟩ dX4_areAtMost_10 (fun H locs hP hD hS => ?_)
    refine lv_if_eq (tgt := 28) hx hb dX4_areAtMost_13 (by decide) (fun c4 => ?_) (fun c4 => ?_)
    · replace h := (if_pos c4).symm.trans h
      refine lv_iconst (v := 0) hx hb dX4_areAtMost_28 (by decide) ?_
      rw [← Option.some.inj h]
      exact kri hx hb hr hlk rfl rfl hP hD hS hK dX4_areAtMost_29
    · replace h := (if_neg c4).symm.trans h
      refine lv_iload_n hx hb dX4_areAtMost_16 rfl (lv_at hl 2 rfl) ?_
      refine lv_iload_n hx hb dX4_areAtMost_17 rfl (lv_at hl 3 rfl) ?_
      obtain ⟨q5, hq5, h⟩ := bd_s h
      refine kSi (n := 2) (As := [.int p2, .int p3]) (rest := []) hx hb hml hown hts (c_X4_isAtMost l G cI cJ cZ cO cA e _ p2 p3 hq5) (tb_S kw189 kw190 kw1 kw191) rfl rfl (by decide +kernel) ⟨Nat.le_of_ble_eq_true rfl, Nat.le_of_ble_eq_true rfl⟩ hK hP hD hS hA hE rfl rfl hl.1 (Nat.le_of_ble_eq_true rfl) ⟨Nat.zero_le _, Nat.zero_le _⟩ dX4_areAtMost_18 (fun H locs hP hD hS => ?_)
      refine lv_if_eq (tgt := 28) hx hb dX4_areAtMost_21 (by decide) (fun c6 => ?_) (fun c6 => ?_)
      · replace h := (if_pos c6).symm.trans h
        refine lv_iconst (v := 0) hx hb dX4_areAtMost_28 (by decide) ?_
        rw [← Option.some.inj h]
        exact kri hx hb hr hlk rfl rfl hP hD hS hK dX4_areAtMost_29
      · replace h := (if_neg c6).symm.trans h
        refine lv_iconst (v := 1) hx hb dX4_areAtMost_24 (by decide) ?_
        refine lv_goto (tgt := 29) hx hb dX4_areAtMost_25 (by decide) ?_
        rw [← Option.some.inj h]
        exact kri hx hb hr hlk rfl rfl hP hD hS hK dX4_areAtMost_29

/-! X4_isTarget -/
def f_X4_isTarget (p0 : Int32) (p1 : Int32) (p2 : Int32) : Option (Int32) :=
  (f_X4_areAtMost p0 p1 p2 40000).bind (fun q1 => gd (zb q1) (some q1))

set_option maxHeartbeats 4000000 in
set_option maxRecDepth 100000 in
theorem c_X4_isTarget (l : Launch) (G : va_G) (cI cJ cZ cO cA : ClassId) (e : Nat × Nat) (sz : Nat) (p0 : Int32) (p1 : Int32) (p2 : Int32) {res : Int32} (hf : f_X4_isTarget p0 p1 p2 = some res) : MetI l yX4_isTarget cX4_isTarget 3 .boolean ({ frames := 3, cells := 0, slots := 0, locals := 66 } : Room) [.int p0, .int p1, .int p2] G (ty5 cI cJ cZ cO cA) e (([] : va_W)) (([] : va_W)) sz res := by
  refine g_body (QQ := fun A => (qI G (ty5 cI cJ cZ cO cA) A (([] : va_W)) res)) (own := RX4) (by decide) rfl (Nat.le_of_ble_eq_true rfl) ?_
  intro p ev s m below meth c A ls hx hb hr hml hown hts hlk hA hP hD hS hK hE hl
  have hl : lv_has ls 3 [(0, .int p0), (1, .int p1), (2, .int p2)] := hl
  show W p l ev ({ frames := 3, cells := 0, slots := 0, locals := 66 } : Room) s m ([.int p0, .int p1, .int p2] : List Value).toArray below meth c s.heap [] 0 0 (MQ below (qI G (ty5 cI cJ cZ cO cA) A (([] : va_W)) res) ([.int p0, .int p1, .int p2] : List Value).toArray s 0 0 A) (F0 m 0 ls [])
  have h := hf
  unfold f_X4_isTarget at h
  refine lv_iload_n hx hb dX4_isTarget_0 rfl (lv_at hl 0 rfl) ?_
  refine lv_iload_n hx hb dX4_isTarget_1 rfl (lv_at hl 1 rfl) ?_
  refine lv_iload_n hx hb dX4_isTarget_2 rfl (lv_at hl 2 rfl) ?_
  refine lv_ldc (v := 40000) hx hb hown (hts _ kw296) dX4_isTarget_3 ?_
  obtain ⟨q1, hq1, h⟩ := bd_s h
  refine kSi (n := 4) (As := [.int p0, .int p1, .int p2, .int 40000]) (rest := []) hx hb hml hown hts (c_X4_areAtMost l G cI cJ cZ cO cA e _ p0 p1 p2 40000 hq1) (tb_S kw297 kw298 kw1 kw299) rfl rfl (by decide +kernel) ⟨Nat.le_of_ble_eq_true rfl, Nat.le_of_ble_eq_true rfl⟩ hK hP hD hS hA hE rfl rfl hl.1 (Nat.le_of_ble_eq_true rfl) ⟨Nat.zero_le _, Nat.zero_le _⟩ dX4_isTarget_5 (fun H locs hP hD hS => ?_)
  obtain ⟨g2, h⟩ := gd_s h
  rw [← Option.some.inj h]
  exact kri hx hb hr hlk (zb_s g2) rfl hP hD hS hK dX4_isTarget_8

/-! J7_fill_d0a16 -/
def f_J7_fill_d0a16_b6 (v1 : Int64) (v4 : Int32) (z1 : (Nat → Int64) × Int32) : Option (((Nat → Int64) × Int32) ⊕ ((Nat → Int64))) :=
  if v4 ≤ z1.2 then (some (Sum.inr z1.1)) else (gd (ib z1.2 8) (some (Sum.inl ((vp_updL z1.1 z1.2.toNatClampNeg v1), (z1.2 + 1)))))
def f_J7_fill_d0a16 (arl : Nat → Int64) (p1 : Int64) : Option ((Nat → Int64)) :=
  (lp (f_J7_fill_d0a16_b6 p1 8) 1000 (arl, 0)).bind (fun q1 => some q1)

set_option maxHeartbeats 4000000 in
set_option maxRecDepth 100000 in
theorem c_J7_fill_d0a16 (l : Launch) (G : va_G) (cI cJ cZ cO cA : ClassId) (e : Nat × Nat) (aa : Nat) (sz : Nat) (arl : Nat → Int64) (p1 : Int64) {res : (Nat → Int64)} (hf : f_J7_fill_d0a16 arl p1 = some res) : MetV l yJ7_fill_d0a16 cJ7_fill_d0a16 5 ({ frames := 0, cells := 0, slots := 0, locals := 0 } : Room) [.ref aa, .long p1] G (ty5 cI cJ cZ cO cA) e (wLa cJ aa 8 arl ++ ([] : va_W)) (wLa cJ aa 8 res ++ ([] : va_W)) sz := by
  refine g_body (QQ := fun A => (qV G (ty5 cI cJ cZ cO cA) A (wLa cJ aa 8 res ++ ([] : va_W)))) (own := RJ7) (by decide) rfl (Nat.le_of_ble_eq_true rfl) ?_
  intro p ev s m below meth c A ls hx hb hr hml hown hts hlk hA hP hD hS hK hE hl
  have hl : lv_has ls 5 [(0, .ref aa), (1, .long p1)] := hl
  show W p l ev ({ frames := 0, cells := 0, slots := 0, locals := 0 } : Room) s m ([.ref aa, .long p1] : List Value).toArray below meth c s.heap [] 0 0 (MQ below (qV G (ty5 cI cJ cZ cO cA) A (wLa cJ aa 8 res ++ ([] : va_W))) ([.ref aa, .long p1] : List Value).toArray s 0 0 A) (F0 m 0 ls [])
  have h := hf
  unfold f_J7_fill_d0a16 at h
  refine lv_iconst (v := 0) hx hb dJ7_fill_d0a16_0 (by decide) ?_
  refine lv_istore_n (lv' := [(3, .int 0), (0, .ref aa), (1, .long p1)]) hx hb dJ7_fill_d0a16_1 rfl hl (by decide) rfl (fun ls hl => ?_)
  refine lv_aload_n hx hb dJ7_fill_d0a16_2 rfl (lv_at hl 1 rfl) ?_
  refine va_alen (v := 8) hx hb hK hP 0 1 rfl rfl rfl dJ7_fill_d0a16_3 ?_
  refine lv_istore (lv' := [(4, .int 8), (3, .int 0), (0, .ref aa), (1, .long p1)]) hx hb dJ7_fill_d0a16_4 hl (by decide) rfl (fun ls hl => ?_)
  obtain ⟨q1, hq1, h⟩ := bd_s h
  have hX1_0 : ∀ (x1 : (Nat → Int64)) (H : Heap) (locs : List Loc) (ls : Array Slot), x1 = q1 → va_P G vwCl (wLa cJ aa 8 x1 ++ ([] : va_W)) H → va_D A (wLa cJ aa 8 x1 ++ ([] : va_W)) → va_S A s.heap H locs → lv_has ls 5 [] → W p l ev ({ frames := 0, cells := 0, slots := 0, locals := 0 } : Room) s m ([.ref aa, .long p1] : List Value).toArray below meth c H locs 0 0 (MQ below (qV G (ty5 cI cJ cZ cO cA) A (wLa cJ aa 8 res ++ ([] : va_W))) ([.ref aa, .long p1] : List Value).toArray s 0 0 A) (F0 m 22 ls []) := by
    intro x1 H locs ls e1 hP hD hS hl
    replace e1 := e1.symm
    subst e1
    rw [← Option.some.inj h]
    exact krv hx hb hr hlk hP hD hS hK dJ7_fill_d0a16_22
  have hL1 : ∀ (n : Nat) (z1 : (Nat → Int64) × Int32) (H : Heap) (locs : List Loc) (ls : Array Slot), lp (f_J7_fill_d0a16_b6 p1 8) n z1 = some q1 → va_P G vwCl (wLa cJ aa 8 z1.1 ++ ([] : va_W)) H → va_D A (wLa cJ aa 8 z1.1 ++ ([] : va_W)) → va_S A s.heap H locs → lv_has ls 5 [(0, .ref aa), (1, .long p1), (3, .int z1.2), (4, .int 8)] → W p l ev ({ frames := 0, cells := 0, slots := 0, locals := 0 } : Room) s m ([.ref aa, .long p1] : List Value).toArray below meth c H locs 0 0 (MQ below (qV G (ty5 cI cJ cZ cO cA) A (wLa cJ aa 8 res ++ ([] : va_W))) ([.ref aa, .long p1] : List Value).toArray s 0 0 A) (F0 m 6 ls []) := by
    intro n
    induction n with
    | zero => intro z1 H locs ls h; cases h
    | succ n ih1 =>
      intro z1 H locs ls h hP hD hS hl
      obtain ⟨o1, h, h1⟩ := lp_s h
      unfold f_J7_fill_d0a16_b6 at h
      refine lv_iload_n hx hb dJ7_fill_d0a16_6 rfl (lv_at hl 2 rfl) ?_
      refine lv_iload hx hb dJ7_fill_d0a16_7 (lv_at hl 3 rfl) ?_
      refine lv_icmp_ge (tgt := 22) hx hb dJ7_fill_d0a16_9 (by decide) (fun c2 => ?_) (fun c2 => ?_)
      · replace h := (if_pos c2).symm.trans h
        rw [← Option.some.inj h] at h1
        exact hX1_0 z1.1 _ _ _ (lp_x h1) hP hD hS (lv_sub hl [] rfl)
      · replace h := (if_neg c2).symm.trans h
        refine lv_aload_n hx hb dJ7_fill_d0a16_12 rfl (lv_at hl 0 rfl) ?_
        refine lv_iload_n hx hb dJ7_fill_d0a16_13 rfl (lv_at hl 2 rfl) ?_
        refine lv_lload_n hx hb dJ7_fill_d0a16_14 rfl (lv_at hl 1 rfl) ?_
        obtain ⟨g3, h⟩ := gd_s h
        refine va_last hx hb hK hP hD hS 0 1 rfl rfl (ib_in g3) dJ7_fill_d0a16_15 (fun H locs hP hD hS => ?_)
        have hP : va_P G vwCl (wLa cJ aa 8 (vp_updL z1.1 z1.2.toNatClampNeg p1) ++ ([] : va_W)) H := hP
        have hD : va_D A (wLa cJ aa 8 (vp_updL z1.1 z1.2.toNatClampNeg p1) ++ ([] : va_W)) := hD
        refine lv_iinc (v := (z1.2 + 1)) (lv' := [(3, .int (z1.2 + 1)), (0, .ref aa), (1, .long p1), (4, .int 8)]) hx hb dJ7_fill_d0a16_16 hl (k := 2) rfl rfl (by decide) rfl (fun ls hl => ?_)
        refine lv_goto (tgt := 6) hx hb dJ7_fill_d0a16_19 (by decide) ?_
        rw [← Option.some.inj h] at h1
        exact ih1 ((vp_updL z1.1 z1.2.toNatClampNeg p1), (z1.2 + 1)) _ _ _ (lp_b h1) hP hD hS (lv_sub hl [1, 2, 0, 3] rfl)
  exact hL1 _ (arl, 0) _ _ _ hq1 hP hD hS (lv_sub hl [2, 3, 1, 0] rfl)

/-! X1_clear -/
def f_X1_clear (sh : Nat → Int64) (de : Int64) (co : Int64) (ma : Int32) (fo : Int32) : Option ((Nat → Int64) × Int64 × Int64 × Int32 × Int32) :=
  (f_J7_fill_d0a16 sh 0).bind (fun q1 => some (q1, 1, 0, 0, 0))

set_option maxHeartbeats 4000000 in
set_option maxRecDepth 100000 in
theorem c_X1_clear (l : Launch) (G : va_G) (cI cJ cZ cO cA : ClassId) (e : Nat × Nat) (aE : Nat → Nat) (aR : Nat → Nat) (sz : Nat) (un : Nat → Nat → Int32) (tp : Nat → Int32) (sh : Nat → Int64) (de : Int64) (co : Int64) (ma : Int32) (ru : Int32) (fo : Int32) {res : (Nat → Int64) × Int64 × Int64 × Int32 × Int32} (hf : f_X1_clear sh de co ma fo = some res) : MetV l yX1_clear cX1_clear 1 ({ frames := 1, cells := 0, slots := 0, locals := 24 } : Room) [.ref (aE 0)] G (ty5 cI cJ cZ cO cA) e (wE cI cJ cA aE aR un tp sh de co ma ru fo ++ ([] : va_W)) (wE cI cJ cA aE aR un tp res.1 res.2.1 res.2.2.1 res.2.2.2.1 ru res.2.2.2.2 ++ ([] : va_W)) sz := by
  refine g_body (QQ := fun A => (qV G (ty5 cI cJ cZ cO cA) A (wE cI cJ cA aE aR un tp res.1 res.2.1 res.2.2.1 res.2.2.2.1 ru res.2.2.2.2 ++ ([] : va_W)))) (own := RX1) (by decide) rfl (Nat.le_of_ble_eq_true rfl) ?_
  intro p ev s m below meth c A ls hx hb hr hml hown hts hlk hA hP hD hS hK hE hl
  have hl : lv_has ls 1 [(0, .ref (aE 0))] := hl
  show W p l ev ({ frames := 1, cells := 0, slots := 0, locals := 24 } : Room) s m ([.ref (aE 0)] : List Value).toArray below meth c s.heap [] 0 0 (MQ below (qV G (ty5 cI cJ cZ cO cA) A (wE cI cJ cA aE aR un tp res.1 res.2.1 res.2.2.1 res.2.2.2.1 ru res.2.2.2.2 ++ ([] : va_W))) ([.ref (aE 0)] : List Value).toArray s 0 0 A) (F0 m 0 ls [])
  have h := hf
  unfold f_X1_clear at h
  refine lv_aload_n hx hb dX1_clear_0 rfl (lv_at hl 0 rfl) ?_
  refine lv_iconst (v := 0) hx hb dX1_clear_1 (by decide) ?_
  refine va_put (D := G) (ci := 1) (ty := .boolean) (v := .int 0) (C := RX1) (T := TX1) (N := 8) hx hb hts uX1 tyX1 tyX1_ok nmX1 hown hK hP hD hS 0 rfl rfl 7 (by decide) (hts _ kw113) (fun _ h9 => h9) rfl (by decide +kernel) rfl rfl (Nat.le_of_ble_eq_true rfl) dX1_clear_2 (fun H locs hP hD hS => ?_)
  have hP : va_P G vwCl (wE cI cJ cA aE aR un tp sh de co ma ru 0 ++ ([] : va_W)) H := hP
  have hD : va_D A (wE cI cJ cA aE aR un tp sh de co ma ru 0 ++ ([] : va_W)) := hD
  refine lv_aload_n hx hb dX1_clear_5 rfl (lv_at hl 0 rfl) ?_
  refine lv_iconst (v := 0) hx hb dX1_clear_6 (by decide) ?_
  refine va_put (D := G) (ci := 1) (ty := .int) (v := .int 0) (C := RX1) (T := TX1) (N := 8) hx hb hts uX1 tyX1 tyX1_ok nmX1 hown hK hP hD hS 0 rfl rfl 5 (by decide) (hts _ kw110) (fun _ h9 => h9) rfl (by decide +kernel) rfl rfl (Nat.le_of_ble_eq_true rfl) dX1_clear_7 (fun H locs hP hD hS => ?_)
  have hP : va_P G vwCl (wE cI cJ cA aE aR un tp sh de co 0 ru 0 ++ ([] : va_W)) H := hP
  have hD : va_D A (wE cI cJ cA aE aR un tp sh de co 0 ru 0 ++ ([] : va_W)) := hD
  refine lv_aload_n hx hb dX1_clear_10 rfl (lv_at hl 0 rfl) ?_
  refine lv_lconst (v := 0) hx hb dX1_clear_11 (by decide) ?_
  refine va_put (D := G) (ci := 1) (ty := .long) (v := .long 0) (C := RX1) (T := TX1) (N := 8) hx hb hts uX1 tyX1 tyX1_ok nmX1 hown hK hP hD hS 0 rfl rfl 4 (by decide) (hts _ kw109) (fun _ h9 => h9) rfl (by decide +kernel) rfl rfl (Nat.le_of_ble_eq_true rfl) dX1_clear_12 (fun H locs hP hD hS => ?_)
  have hP : va_P G vwCl (wE cI cJ cA aE aR un tp sh de 0 0 ru 0 ++ ([] : va_W)) H := hP
  have hD : va_D A (wE cI cJ cA aE aR un tp sh de 0 0 ru 0 ++ ([] : va_W)) := hD
  refine lv_aload_n hx hb dX1_clear_15 rfl (lv_at hl 0 rfl) ?_
  refine lv_lconst (v := 1) hx hb dX1_clear_16 (by decide) ?_
  refine va_put (D := G) (ci := 1) (ty := .long) (v := .long 1) (C := RX1) (T := TX1) (N := 8) hx hb hts uX1 tyX1 tyX1_ok nmX1 hown hK hP hD hS 0 rfl rfl 3 (by decide) (hts _ kw108) (fun _ h9 => h9) rfl (by decide +kernel) rfl rfl (Nat.le_of_ble_eq_true rfl) dX1_clear_17 (fun H locs hP hD hS => ?_)
  have hP : va_P G vwCl (wE cI cJ cA aE aR un tp sh 1 0 0 ru 0 ++ ([] : va_W)) H := hP
  have hD : va_D A (wE cI cJ cA aE aR un tp sh 1 0 0 ru 0 ++ ([] : va_W)) := hD
  refine lv_aload_n hx hb dX1_clear_20 rfl (lv_at hl 0 rfl) ?_
  refine va_get (D := G) (ci := 1) (v := .ref (aE 3)) (C := RX1) (T := TX1) (N := 8) hx hb hts uX1 hown hK hP 0 rfl rfl 2 (by decide) (hts _ kw107) (fun _ h9 => h9) rfl dX1_clear_21 ?_
  refine lv_lconst (v := 0) hx hb dX1_clear_24 (by decide) ?_
  obtain ⟨q1, hq1, h⟩ := bd_s h
  refine kSv (n := 2) (ws' := wE cI cJ cA aE aR un tp q1 1 0 0 ru 0 ++ ([] : va_W)) (As := [.ref (aE 3), .long 0]) (rest := []) hx hb hml hown hts (c_J7_fill_d0a16 l G cI cJ cZ cO cA e (aE 3) _ sh 0 hq1) (tb_S kw308 kw309 kw3 kw310) rfl rfl (by decide +kernel) ⟨Nat.le_of_ble_eq_true rfl, Nat.le_of_ble_eq_true rfl⟩ hK hP hD hS hA hE [3] [0, 1, 2, 4, 5, 6, 7, 8, 9, 10, 11, 12] rfl rfl rfl 13 ⟨rfl, rfl⟩ (by decide +kernel) (by decide +kernel) rfl rfl hl.1 (Nat.le_of_ble_eq_true rfl) ⟨Nat.zero_le _, Nat.zero_le _⟩ dX1_clear_25 (fun H locs hP hD hS => ?_)
  rw [← Option.some.inj h]
  exact krv hx hb hr hlk hP hD hS hK dX1_clear_28

/-! X1_isPossible -/
def f_X1_isPossible (p0 : Int64) (p1 : Int64) : Option (Int32) :=
  if (lg_cmp p0 0) < 0 then (some 0) else (if 0 < (lg_cmp p0 (20 * p1)) then (some 0) else (some 1))

set_option maxHeartbeats 4000000 in
set_option maxRecDepth 100000 in
theorem c_X1_isPossible (l : Launch) (G : va_G) (cI cJ cZ cO cA : ClassId) (e : Nat × Nat) (sz : Nat) (p0 : Int64) (p1 : Int64) {res : Int32} (hf : f_X1_isPossible p0 p1 = some res) : MetI l yX1_isPossible cX1_isPossible 4 .boolean ({ frames := 0, cells := 0, slots := 0, locals := 0 } : Room) [.long p0, .long p1] G (ty5 cI cJ cZ cO cA) e (([] : va_W)) (([] : va_W)) sz res := by
  refine g_body (QQ := fun A => (qI G (ty5 cI cJ cZ cO cA) A (([] : va_W)) res)) (own := RX1) (by decide) rfl (Nat.le_of_ble_eq_true rfl) ?_
  intro p ev s m below meth c A ls hx hb hr hml hown hts hlk hA hP hD hS hK hE hl
  have hl : lv_has ls 4 [(0, .long p0), (2, .long p1)] := hl
  show W p l ev ({ frames := 0, cells := 0, slots := 0, locals := 0 } : Room) s m ([.long p0, .long p1] : List Value).toArray below meth c s.heap [] 0 0 (MQ below (qI G (ty5 cI cJ cZ cO cA) A (([] : va_W)) res) ([.long p0, .long p1] : List Value).toArray s 0 0 A) (F0 m 0 ls [])
  have h := hf
  unfold f_X1_isPossible at h
  refine lv_lload_n hx hb dX1_isPossible_0 rfl (lv_at hl 0 rfl) ?_
  refine lv_lconst (v := 0) hx hb dX1_isPossible_1 (by decide) ?_
  refine W.lcmp hx hb dX1_isPossible_2 ?_
  refine lv_if_lt (tgt := 20) hx hb dX1_isPossible_3 (by decide) (fun c1 => ?_) (fun c1 => ?_)
  · replace h := (if_pos c1).symm.trans h
    refine lv_iconst (v := 0) hx hb dX1_isPossible_20 (by decide) ?_
    rw [← Option.some.inj h]
    exact kri hx hb hr hlk rfl rfl hP hD hS hK dX1_isPossible_21
  · replace h := (if_neg c1).symm.trans h
    refine lv_lload_n hx hb dX1_isPossible_6 rfl (lv_at hl 0 rfl) ?_
    refine lv_ldc2 (v := 20) hx hb hown (hts _ kw324) dX1_isPossible_7 ?_
    refine lv_lload_n hx hb dX1_isPossible_10 rfl (lv_at hl 1 rfl) ?_
    refine lv_lmul hx hb dX1_isPossible_11 ?_
    refine W.lcmp hx hb dX1_isPossible_12 ?_
    refine lv_if_gt (tgt := 20) hx hb dX1_isPossible_13 (by decide) (fun c2 => ?_) (fun c2 => ?_)
    · replace h := (if_pos c2).symm.trans h
      refine lv_iconst (v := 0) hx hb dX1_isPossible_20 (by decide) ?_
      rw [← Option.some.inj h]
      exact kri hx hb hr hlk rfl rfl hP hD hS hK dX1_isPossible_21
    · replace h := (if_neg c2).symm.trans h
      refine lv_iconst (v := 1) hx hb dX1_isPossible_16 (by decide) ?_
      refine lv_goto (tgt := 21) hx hb dX1_isPossible_17 (by decide) ?_
      rw [← Option.some.inj h]
      exact kri hx hb hr hlk rfl rfl hP hD hS hK dX1_isPossible_21

/-! X1_bitIf -/
def f_X1_bitIf (p0 : Int32) (p1 : Int32) : Option (Int32) :=
  if p0 = 0 then (some 0) else (some (1 <<< (p1 &&& 31)))

set_option maxHeartbeats 4000000 in
set_option maxRecDepth 100000 in
theorem c_X1_bitIf (l : Launch) (G : va_G) (cI cJ cZ cO cA : ClassId) (e : Nat × Nat) (sz : Nat) (p0 : Int32) (p1 : Int32) {res : Int32} (hf : f_X1_bitIf p0 p1 = some res) : MetI l yX1_bitIf cX1_bitIf 2 .int ({ frames := 0, cells := 0, slots := 0, locals := 0 } : Room) [.int p0, .int p1] G (ty5 cI cJ cZ cO cA) e (([] : va_W)) (([] : va_W)) sz res := by
  refine g_body (QQ := fun A => (qI G (ty5 cI cJ cZ cO cA) A (([] : va_W)) res)) (own := RX1) (by decide) rfl (Nat.le_of_ble_eq_true rfl) ?_
  intro p ev s m below meth c A ls hx hb hr hml hown hts hlk hA hP hD hS hK hE hl
  have hl : lv_has ls 2 [(0, .int p0), (1, .int p1)] := hl
  show W p l ev ({ frames := 0, cells := 0, slots := 0, locals := 0 } : Room) s m ([.int p0, .int p1] : List Value).toArray below meth c s.heap [] 0 0 (MQ below (qI G (ty5 cI cJ cZ cO cA) A (([] : va_W)) res) ([.int p0, .int p1] : List Value).toArray s 0 0 A) (F0 m 0 ls [])
  have h := hf
  unfold f_X1_bitIf at h
  refine lv_iload_n hx hb dX1_bitIf_0 rfl (lv_at hl 0 rfl) ?_
  refine lv_if_eq (tgt := 10) hx hb dX1_bitIf_1 (by decide) (fun c1 => ?_) (fun c1 => ?_)
  · replace h := (if_pos c1).symm.trans h
    refine lv_iconst (v := 0) hx hb dX1_bitIf_10 (by decide) ?_
    rw [← Option.some.inj h]
    exact kri hx hb hr hlk rfl rfl hP hD hS hK dX1_bitIf_11
  · replace h := (if_neg c1).symm.trans h
    refine lv_iconst (v := 1) hx hb dX1_bitIf_4 (by decide) ?_
    refine lv_iload_n hx hb dX1_bitIf_5 rfl (lv_at hl 1 rfl) ?_
    refine lv_ishl hx hb dX1_bitIf_6 ?_
    refine lv_goto (tgt := 11) hx hb dX1_bitIf_7 (by decide) ?_
    rw [← Option.some.inj h]
    exact kri hx hb hr hlk rfl rfl hP hD hS hK dX1_bitIf_11

/-! X1_isBetter -/
def f_X1_isBetter (de : Int64) (co : Int64) (ma : Int32) (p0 : Int64) (p1 : Int64) (p2 : Int32) : Option (Int32) :=
  if (lg_cmp (p0 * de) (co * p1)) < 0 then (some 1) else (if (lg_cmp (p0 * de) (co * p1)) = 0 then (if ma ≤ p2 then (some 0) else (some 1)) else (some 0))

set_option maxHeartbeats 4000000 in
set_option maxRecDepth 100000 in
theorem c_X1_isBetter (l : Launch) (G : va_G) (cI cJ cZ cO cA : ClassId) (e : Nat × Nat) (aE : Nat → Nat) (aR : Nat → Nat) (sz : Nat) (un : Nat → Nat → Int32) (tp : Nat → Int32) (sh : Nat → Int64) (de : Int64) (co : Int64) (ma : Int32) (ru : Int32) (fo : Int32) (p0 : Int64) (p1 : Int64) (p2 : Int32) {res : Int32} (hf : f_X1_isBetter de co ma p0 p1 p2 = some res) : MetI l yX1_isBetter cX1_isBetter 10 .boolean ({ frames := 0, cells := 0, slots := 0, locals := 0 } : Room) [.ref (aE 0), .long p0, .long p1, .int p2] G (ty5 cI cJ cZ cO cA) e (wE cI cJ cA aE aR un tp sh de co ma ru fo ++ ([] : va_W)) (wE cI cJ cA aE aR un tp sh de co ma ru fo ++ ([] : va_W)) sz res := by
  refine g_body (QQ := fun A => (qI G (ty5 cI cJ cZ cO cA) A (wE cI cJ cA aE aR un tp sh de co ma ru fo ++ ([] : va_W)) res)) (own := RX1) (by decide) rfl (Nat.le_of_ble_eq_true rfl) ?_
  intro p ev s m below meth c A ls hx hb hr hml hown hts hlk hA hP hD hS hK hE hl
  have hl : lv_has ls 10 [(0, .ref (aE 0)), (1, .long p0), (3, .long p1), (5, .int p2)] := hl
  show W p l ev ({ frames := 0, cells := 0, slots := 0, locals := 0 } : Room) s m ([.ref (aE 0), .long p0, .long p1, .int p2] : List Value).toArray below meth c s.heap [] 0 0 (MQ below (qI G (ty5 cI cJ cZ cO cA) A (wE cI cJ cA aE aR un tp sh de co ma ru fo ++ ([] : va_W)) res) ([.ref (aE 0), .long p0, .long p1, .int p2] : List Value).toArray s 0 0 A) (F0 m 0 ls [])
  have h := hf
  unfold f_X1_isBetter at h
  refine lv_aload_n hx hb dX1_isBetter_0 rfl (lv_at hl 0 rfl) ?_
  refine va_get (D := G) (ci := 1) (v := .long co) (C := RX1) (T := TX1) (N := 8) hx hb hts uX1 hown hK hP 0 rfl rfl 4 (by decide) (hts _ kw109) (fun _ h9 => h9) rfl dX1_isBetter_1 ?_
  refine lv_lload_n hx hb dX1_isBetter_4 rfl (lv_at hl 2 rfl) ?_
  refine lv_lmul hx hb dX1_isBetter_5 ?_
  refine lv_lstore (lv' := [(6, .long (co * p1)), (0, .ref (aE 0)), (1, .long p0), (3, .long p1), (5, .int p2)]) hx hb dX1_isBetter_6 hl (by decide) rfl (fun ls hl => ?_)
  refine lv_lload_n hx hb dX1_isBetter_8 rfl (lv_at hl 2 rfl) ?_
  refine lv_aload_n hx hb dX1_isBetter_9 rfl (lv_at hl 1 rfl) ?_
  refine va_get (D := G) (ci := 1) (v := .long de) (C := RX1) (T := TX1) (N := 8) hx hb hts uX1 hown hK hP 0 rfl rfl 3 (by decide) (hts _ kw108) (fun _ h9 => h9) rfl dX1_isBetter_10 ?_
  refine lv_lmul hx hb dX1_isBetter_13 ?_
  refine lv_lstore (lv' := [(8, .long (p0 * de)), (6, .long (co * p1)), (0, .ref (aE 0)), (1, .long p0), (3, .long p1), (5, .int p2)]) hx hb dX1_isBetter_14 hl (by decide) rfl (fun ls hl => ?_)
  refine lv_lload hx hb dX1_isBetter_16 (lv_at hl 0 rfl) ?_
  refine lv_lload hx hb dX1_isBetter_18 (lv_at hl 1 rfl) ?_
  refine W.lcmp hx hb dX1_isBetter_20 ?_
  refine lv_if_lt (tgt := 41) hx hb dX1_isBetter_21 (by decide) (fun c1 => ?_) (fun c1 => ?_)
  · replace h := (if_pos c1).symm.trans h
    refine lv_iconst (v := 1) hx hb dX1_isBetter_41 (by decide) ?_
    refine lv_goto (tgt := 46) hx hb dX1_isBetter_42 (by decide) ?_
    rw [← Option.some.inj h]
    exact kri hx hb hr hlk rfl rfl hP hD hS hK dX1_isBetter_46
  · replace h := (if_neg c1).symm.trans h
    refine lv_lload hx hb dX1_isBetter_24 (lv_at hl 0 rfl) ?_
    refine lv_lload hx hb dX1_isBetter_26 (lv_at hl 1 rfl) ?_
    refine W.lcmp hx hb dX1_isBetter_28 ?_
    refine lv_if_ne (tgt := 45) hx hb dX1_isBetter_29 (by decide) (fun c2 => ?_) (fun c2 => ?_)
    · replace h := (if_neg c2).symm.trans h
      refine lv_iconst (v := 0) hx hb dX1_isBetter_45 (by decide) ?_
      rw [← Option.some.inj h]
      exact kri hx hb hr hlk rfl rfl hP hD hS hK dX1_isBetter_46
    · replace h := (if_pos c2).symm.trans h
      refine lv_iload hx hb dX1_isBetter_32 (lv_at hl 5 rfl) ?_
      refine lv_aload_n hx hb dX1_isBetter_34 rfl (lv_at hl 2 rfl) ?_
      refine va_get (D := G) (ci := 1) (v := .int ma) (C := RX1) (T := TX1) (N := 8) hx hb hts uX1 hown hK hP 0 rfl rfl 5 (by decide) (hts _ kw110) (fun _ h9 => h9) rfl dX1_isBetter_35 ?_
      refine lv_icmp_ge (tgt := 45) hx hb dX1_isBetter_38 (by decide) (fun c3 => ?_) (fun c3 => ?_)
      · replace h := (if_pos c3).symm.trans h
        refine lv_iconst (v := 0) hx hb dX1_isBetter_45 (by decide) ?_
        rw [← Option.some.inj h]
        exact kri hx hb hr hlk rfl rfl hP hD hS hK dX1_isBetter_46
      · replace h := (if_neg c3).symm.trans h
        refine lv_iconst (v := 1) hx hb dX1_isBetter_41 (by decide) ?_
        refine lv_goto (tgt := 46) hx hb dX1_isBetter_42 (by decide) ?_
        rw [← Option.some.inj h]
        exact kri hx hb hr hlk rfl rfl hP hD hS hK dX1_isBetter_46

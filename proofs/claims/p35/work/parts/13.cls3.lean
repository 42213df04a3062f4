/-! X2_takeTarget -/
def f_X2_takeTarget_b35 (pr : Nat → Int32) (tc : Int32) (v1 : Int32) (v2 : Int32) (z6 : Int32 × Int32) : Option ((Int32 × Int32) ⊕ (Int32)) :=
  if tc ≤ z6.2 then (some (Sum.inr z6.1)) else ((f_X2_ranTicks v1 z6.2).bind (fun q8 => (f_X2_unitPart pr z6.2 v2).bind (fun q9 => some (Sum.inl ((z6.1 - (q8 * q9)), (z6.2 + 1))))))
def f_X2_takeTarget_j30 (pr : Nat → Int32) (im : Nat → Int32) (tc : Int32) (v1 : Int32) (v2 : Int32) (t0 : Int32) (t1 : Int32) : Option (((Nat → Int32) × Int32) ⊕ ((Nat → Int32))) :=
  (lp (f_X2_takeTarget_b35 pr tc v1 v2) 1000 ((t1 + t0), 0)).bind (fun q6 => gd (ib (6 + v2) 9) (some (Sum.inl ((upd im (6 + v2).toNatClampNeg q6), (v2 + 1)))))
def f_X2_takeTarget_b2 (pr : Nat → Int32) (tc : Int32) (qu : Nat → Int32) (rc : Int32) (v1 : Int32) (z1 : (Nat → Int32) × Int32) : Option (((Nat → Int32) × Int32) ⊕ ((Nat → Int32))) :=
  if 3 ≤ z1.2 then (some (Sum.inr z1.1)) else ((f_X2_impulsePart z1.1 0 z1.2).bind (fun q3 => if rc ≤ 0 then (f_X2_takeTarget_j30 pr z1.1 tc v1 z1.2 0 q3) else (gd (ib z1.2 30) (f_X2_takeTarget_j30 pr z1.1 tc v1 z1.2 (qu z1.2.toNatClampNeg) q3))))
def f_X2_takeTarget (pr : Nat → Int32) (tc : Int32) (qu : Nat → Int32) (im : Nat → Int32) (rc : Int32) (p0 : Int32) : Option ((Nat → Int32) × (Nat → Int32) × Int32) :=
  (lp (f_X2_takeTarget_b2 pr tc qu rc p0) 1000 (im, 0)).bind (fun q1 => if rc ≤ 0 then (some (qu, q1, rc)) else ((f_X2_removeRequest qu rc 0).bind (fun q13 => some (q13.1, q1, q13.2))))

set_option maxHeartbeats 4000000 in
set_option maxRecDepth 100000 in
theorem c_X2_takeTarget (l : Launch) (G : va_G) (cI cJ cZ cO cA : ClassId) (e : Nat × Nat) (aS : Nat → Nat) (sz : Nat) (pr : Nat → Int32) (pu : Nat → Int32) (ta : Nat → Int32) (se : Nat → Int32) (qu : Nat → Int32) (im : Nat → Int32) (su : Nat → Int64) (tc : Int32) (sc : Int32) (rc : Int32) (cn : Int32) (so : Int32) (p0 : Int32) {res : (Nat → Int32) × (Nat → Int32) × Int32} (hf : f_X2_takeTarget pr tc qu im rc p0 = some res) : MetV l yX2_takeTarget cX2_takeTarget 5 ({ frames := 2, cells := 0, slots := 0, locals := 62 } : Room) [.ref (aS 0), .int p0] G (ty5 cI cJ cZ cO cA) e (wS cI cJ aS pr pu ta se qu im su tc sc rc cn so ++ ([] : va_W)) (wS cI cJ aS pr pu ta se res.1 res.2.1 su tc sc res.2.2 cn so ++ ([] : va_W)) sz := by
  refine g_body (QQ := fun A => (qV G (ty5 cI cJ cZ cO cA) A (wS cI cJ aS pr pu ta se res.1 res.2.1 su tc sc res.2.2 cn so ++ ([] : va_W)))) (own := RX2) (by decide) rfl (Nat.le_of_ble_eq_true rfl) ?_
  intro p ev s m below meth c A ls hx hb hr hml hown hts hlk hA hP hD hS hK hE hl
  have hl : lv_has ls 5 [(0, .ref (aS 0)), (1, .int p0)] := hl
  show W p l ev ({ frames := 2, cells := 0, slots := 0, locals := 62 } : Room) s m ([.ref (aS 0), .int p0] : List Value).toArray below meth c s.heap [] 0 0 (MQ below (qV G (ty5 cI cJ cZ cO cA) A (wS cI cJ aS pr pu ta se res.1 res.2.1 su tc sc res.2.2 cn so ++ ([] : va_W))) ([.ref (aS 0), .int p0] : List Value).toArray s 0 0 A) (F0 m 0 ls [])
  have h := hf
  unfold f_X2_takeTarget at h
  refine lv_iconst (v := 0) hx hb dX2_takeTarget_0 (by decide) ?_
  refine lv_istore_n (lv' := [(2, .int 0), (0, .ref (aS 0)), (1, .int p0)]) hx hb dX2_takeTarget_1 rfl hl (by decide) rfl (fun ls hl => ?_)
  obtain ⟨q1, hq1, h⟩ := bd_s h
  have hX1_0 : ∀ (x1 : (Nat → Int32)) (H : Heap) (locs : List Loc) (ls : Array Slot), x1 = q1 → va_P G vwCl (wS cI cJ aS pr pu ta se qu x1 su tc sc rc cn so ++ ([] : va_W)) H → va_D A (wS cI cJ aS pr pu ta se qu x1 su tc sc rc cn so ++ ([] : va_W)) → va_S A s.heap H locs → lv_has ls 5 [(0, .ref (aS 0))] → W p l ev ({ frames := 2, cells := 0, slots := 0, locals := 62 } : Room) s m ([.ref (aS 0), .int p0] : List Value).toArray below meth c H locs 0 0 (MQ below (qV G (ty5 cI cJ cZ cO cA) A (wS cI cJ aS pr pu ta se res.1 res.2.1 su tc sc res.2.2 cn so ++ ([] : va_W))) ([.ref (aS 0), .int p0] : List Value).toArray s 0 0 A) (F0 m 83 ls []) := by
    intro x1 H locs ls e1 hP hD hS hl
    replace e1 := e1.symm
    subst e1
    refine lv_aload_n hx hb dX2_takeTarget_83 rfl (lv_at hl 0 rfl) ?_
    refine va_get (D := G) (ci := 2) (v := .int rc) (C := RX2) (T := TX2) (N := 12) hx hb hts uX2 hown hK hP 0 rfl rfl 9 (by decide) (hts _ kw45) (fun _ h9 => h9) rfl dX2_takeTarget_84 ?_
    refine lv_if_le (tgt := 95) hx hb dX2_takeTarget_87 (by decide) (fun c12 => ?_) (fun c12 => ?_)
    · replace h := (if_pos c12).symm.trans h
      rw [← Option.some.inj h]
      exact krv hx hb hr hlk hP hD hS hK dX2_takeTarget_95
    · replace h := (if_neg c12).symm.trans h
      refine lv_aload_n hx hb dX2_takeTarget_90 rfl (lv_at hl 0 rfl) ?_
      refine lv_iconst (v := 0) hx hb dX2_takeTarget_91 (by decide) ?_
      obtain ⟨q13, hq13, h⟩ := bd_s h
      refine kVv (n := 1) (C := RX2) (ws' := wS cI cJ aS pr pu ta se q13.1 q1 su tc sc q13.2 cn so ++ ([] : va_W)) (As := [.int 0]) (rest := []) hx hb hml hown hts (c_X2_removeRequest l G cI cJ cZ cO cA e aS _ pr pu ta se qu q1 su tc sc rc cn so 0 hq13) (tb_V kw364 kw365 kw366 kw2 kw367) rfl rfl (by decide +kernel) ⟨Nat.le_of_ble_eq_true rfl, Nat.le_of_ble_eq_true rfl⟩ hK hP hD hS hA hE 0 rfl rfl [0, 1, 2, 3, 4, 5, 6, 7] [] rfl rfl rfl 8 ⟨rfl, rfl⟩ (by decide +kernel) (by decide +kernel) rfl rfl hl.1 (Nat.le_of_ble_eq_true rfl) ⟨Nat.zero_le _, Nat.zero_le _⟩ dX2_takeTarget_92 (fun H locs hP hD hS => ?_)
      rw [← Option.some.inj h]
      exact krv hx hb hr hlk hP hD hS hK dX2_takeTarget_95
  have hL1 : ∀ (n : Nat) (z1 : (Nat → Int32) × Int32) (H : Heap) (locs : List Loc) (ls : Array Slot), lp (f_X2_takeTarget_b2 pr tc qu rc p0) n z1 = some q1 → va_P G vwCl (wS cI cJ aS pr pu ta se qu z1.1 su tc sc rc cn so ++ ([] : va_W)) H → va_D A (wS cI cJ aS pr pu ta se qu z1.1 su tc sc rc cn so ++ ([] : va_W)) → va_S A s.heap H locs → lv_has ls 5 [(0, .ref (aS 0)), (1, .int p0), (2, .int z1.2)] → W p l ev ({ frames := 2, cells := 0, slots := 0, locals := 62 } : Room) s m ([.ref (aS 0), .int p0] : List Value).toArray below meth c H locs 0 0 (MQ below (qV G (ty5 cI cJ cZ cO cA) A (wS cI cJ aS pr pu ta se res.1 res.2.1 su tc sc res.2.2 cn so ++ ([] : va_W))) ([.ref (aS 0), .int p0] : List Value).toArray s 0 0 A) (F0 m 2 ls []) := by
    intro n
    induction n with
    | zero => intro z1 H locs ls h; cases h
    | succ n ih1 =>
      intro z1 H locs ls h hP hD hS hl
      obtain ⟨o1, h, h1⟩ := lp_s h
      unfold f_X2_takeTarget_b2 at h
      refine lv_iload_n hx hb dX2_takeTarget_2 rfl (lv_at hl 2 rfl) ?_
      refine lv_iconst (v := 3) hx hb dX2_takeTarget_3 (by decide) ?_
      refine lv_icmp_ge (tgt := 83) hx hb dX2_takeTarget_4 (by decide) (fun c2 => ?_) (fun c2 => ?_)
      · replace h := (if_pos c2).symm.trans h
        rw [← Option.some.inj h] at h1
        exact hX1_0 z1.1 _ _ _ (lp_x h1) hP hD hS (lv_sub hl [0] rfl)
      · replace h := (if_neg c2).symm.trans h
        refine lv_aload_n hx hb dX2_takeTarget_7 rfl (lv_at hl 0 rfl) ?_
        refine lv_iconst (v := 0) hx hb dX2_takeTarget_8 (by decide) ?_
        refine lv_iload_n hx hb dX2_takeTarget_9 rfl (lv_at hl 2 rfl) ?_
        obtain ⟨q3, hq3, h⟩ := bd_s h
        refine kVi (n := 2) (C := RX2) (ws' := wS cI cJ aS pr pu ta se qu z1.1 su tc sc rc cn so ++ ([] : va_W)) (As := [.int 0, .int z1.2]) (rest := []) hx hb hml hown hts (c_X2_impulsePart l G cI cJ cZ cO cA e aS _ pr pu ta se qu z1.1 su tc sc rc cn so 0 z1.2 hq3) (tb_V kw356 kw357 kw358 kw2 kw359) rfl rfl (by decide +kernel) ⟨Nat.le_of_ble_eq_true rfl, Nat.le_of_ble_eq_true rfl⟩ hK hP hD hS hA hE 0 rfl rfl [0, 1, 2, 3, 4, 5, 6, 7] [] rfl rfl rfl 8 ⟨rfl, rfl⟩ (by decide +kernel) (by decide +kernel) rfl rfl hl.1 (Nat.le_of_ble_eq_true rfl) ⟨Nat.zero_le _, Nat.zero_le _⟩ dX2_takeTarget_10 (fun H locs hP hD hS => ?_)
        refine lv_aload_n hx hb dX2_takeTarget_13 rfl (lv_at hl 0 rfl) ?_
        refine va_get (D := G) (ci := 2) (v := .int rc) (C := RX2) (T := TX2) (N := 12) hx hb hts uX2 hown hK hP 0 rfl rfl 9 (by decide) (hts _ kw45) (fun _ h9 => h9) rfl dX2_takeTarget_14 ?_
        have hJ5 : ∀ (im_5 : Nat → Int32) (v2_5 : Int32) (t0_5 : Int32) (t1_5 : Int32) (H : Heap) (locs : List Loc) (ls : Array Slot), f_X2_takeTarget_j30 pr im_5 tc p0 v2_5 t0_5 t1_5 = some o1 → va_P G vwCl (wS cI cJ aS pr pu ta se qu im_5 su tc sc rc cn so ++ ([] : va_W)) H → va_D A (wS cI cJ aS pr pu ta se qu im_5 su tc sc rc cn so ++ ([] : va_W)) → va_S A s.heap H locs → lv_has ls 5 [(0, .ref (aS 0)), (1, .int p0), (2, .int v2_5)] → W p l ev ({ frames := 2, cells := 0, slots := 0, locals := 62 } : Room) s m ([.ref (aS 0), .int p0] : List Value).toArray below meth c H locs 0 0 (MQ below (qV G (ty5 cI cJ cZ cO cA) A (wS cI cJ aS pr pu ta se res.1 res.2.1 su tc sc res.2.2 cn so ++ ([] : va_W))) ([.ref (aS 0), .int p0] : List Value).toArray s 0 0 A) (F0 m 30 ls [.int t0_5, .int t1_5]) := by
          intro im_5 v2_5 t0_5 t1_5 H locs ls h hP hD hS hl
          unfold f_X2_takeTarget_j30 at h
          refine lv_iadd hx hb dX2_takeTarget_30 ?_
          refine lv_istore_n (lv' := [(3, .int (t1_5 + t0_5)), (0, .ref (aS 0)), (1, .int p0), (2, .int v2_5)]) hx hb dX2_takeTarget_31 rfl hl (by decide) rfl (fun ls hl => ?_)
          refine lv_iconst (v := 0) hx hb dX2_takeTarget_32 (by decide) ?_
          refine lv_istore (lv' := [(4, .int 0), (3, .int (t1_5 + t0_5)), (0, .ref (aS 0)), (1, .int p0), (2, .int v2_5)]) hx hb dX2_takeTarget_33 hl (by decide) rfl (fun ls hl => ?_)
          obtain ⟨q6, hq6, h⟩ := bd_s h
          have hX6_0 : ∀ (x6 : Int32) (H : Heap) (locs : List Loc) (ls : Array Slot), x6 = q6 → va_P G vwCl (wS cI cJ aS pr pu ta se qu im_5 su tc sc rc cn so ++ ([] : va_W)) H → va_D A (wS cI cJ aS pr pu ta se qu im_5 su tc sc rc cn so ++ ([] : va_W)) → va_S A s.heap H locs → lv_has ls 5 [(0, .ref (aS 0)), (1, .int p0), (2, .int v2_5), (3, .int x6)] → W p l ev ({ frames := 2, cells := 0, slots := 0, locals := 62 } : Room) s m ([.ref (aS 0), .int p0] : List Value).toArray below meth c H locs 0 0 (MQ below (qV G (ty5 cI cJ cZ cO cA) A (wS cI cJ aS pr pu ta se res.1 res.2.1 su tc sc res.2.2 cn so ++ ([] : va_W))) ([.ref (aS 0), .int p0] : List Value).toArray s 0 0 A) (F0 m 67 ls []) := by
            intro x6 H locs ls e6 hP hD hS hl
            replace e6 := e6.symm
            subst e6
            refine lv_aload_n hx hb dX2_takeTarget_67 rfl (lv_at hl 0 rfl) ?_
            refine va_get (D := G) (ci := 2) (v := .ref (aS 6)) (C := RX2) (T := TX2) (N := 12) hx hb hts uX2 hown hK hP 0 rfl rfl 5 (by decide) (hts _ kw36) (fun _ h9 => h9) rfl dX2_takeTarget_68 ?_
            refine lv_bipush (v := 6) hx hb dX2_takeTarget_71 (by decide) ?_
            refine lv_iload_n hx hb dX2_takeTarget_73 rfl (lv_at hl 2 rfl) ?_
            refine lv_iadd hx hb dX2_takeTarget_74 ?_
            refine lv_iload_n hx hb dX2_takeTarget_75 rfl (lv_at hl 3 rfl) ?_
            obtain ⟨g10, h⟩ := gd_s h
            refine va_iast hx hb hK hP hD hS 6 0 rfl rfl (ib_in g10) dX2_takeTarget_76 (fun H locs hP hD hS => ?_)
            have hP : va_P G vwCl (wS cI cJ aS pr pu ta se qu (upd im_5 (6 + v2_5).toNatClampNeg q6) su tc sc rc cn so ++ ([] : va_W)) H := hP
            have hD : va_D A (wS cI cJ aS pr pu ta se qu (upd im_5 (6 + v2_5).toNatClampNeg q6) su tc sc rc cn so ++ ([] : va_W)) := hD
            refine lv_iinc (v := (v2_5 + 1)) (lv' := [(2, .int (v2_5 + 1)), (0, .ref (aS 0)), (1, .int p0), (3, .int q6)]) hx hb dX2_takeTarget_77 hl (k := 2) rfl rfl (by decide) rfl (fun ls hl => ?_)
            refine lv_goto (tgt := 2) hx hb dX2_takeTarget_80 (by decide) ?_
            rw [← Option.some.inj h] at h1
            exact ih1 ((upd im_5 (6 + v2_5).toNatClampNeg q6), (v2_5 + 1)) _ _ _ (lp_b h1) hP hD hS (lv_sub hl [1, 2, 0] rfl)
          have hL6 : ∀ (n : Nat) (z6 : Int32 × Int32) (H : Heap) (locs : List Loc) (ls : Array Slot), lp (f_X2_takeTarget_b35 pr tc p0 v2_5) n z6 = some q6 → va_P G vwCl (wS cI cJ aS pr pu ta se qu im_5 su tc sc rc cn so ++ ([] : va_W)) H → va_D A (wS cI cJ aS pr pu ta se qu im_5 su tc sc rc cn so ++ ([] : va_W)) → va_S A s.heap H locs → lv_has ls 5 [(0, .ref (aS 0)), (1, .int p0), (2, .int v2_5), (3, .int z6.1), (4, .int z6.2)] → W p l ev ({ frames := 2, cells := 0, slots := 0, locals := 62 } : Room) s m ([.ref (aS 0), .int p0] : List Value).toArray below meth c H locs 0 0 (MQ below (qV G (ty5 cI cJ cZ cO cA) A (wS cI cJ aS pr pu ta se res.1 res.2.1 su tc sc res.2.2 cn so ++ ([] : va_W))) ([.ref (aS 0), .int p0] : List Value).toArray s 0 0 A) (F0 m 35 ls []) := by
            intro n
            induction n with
            | zero => intro z6 H locs ls h; cases h
            | succ n ih6 =>
              intro z6 H locs ls h hP hD hS hl
              obtain ⟨o6, h, h6⟩ := lp_s h
              unfold f_X2_takeTarget_b35 at h
              refine lv_iload hx hb dX2_takeTarget_35 (lv_at hl 4 rfl) ?_
              refine lv_aload_n hx hb dX2_takeTarget_37 rfl (lv_at hl 0 rfl) ?_
              refine va_get (D := G) (ci := 2) (v := .int tc) (C := RX2) (T := TX2) (N := 12) hx hb hts uX2 hown hK hP 0 rfl rfl 7 (by decide) (hts _ kw42) (fun _ h9 => h9) rfl dX2_takeTarget_38 ?_
              refine lv_icmp_ge (tgt := 67) hx hb dX2_takeTarget_41 (by decide) (fun c7 => ?_) (fun c7 => ?_)
              · replace h := (if_pos c7).symm.trans h
                rw [← Option.some.inj h] at h6
                exact hX6_0 z6.1 _ _ _ (lp_x h6) hP hD hS (lv_sub hl [0, 1, 2, 3] rfl)
              · replace h := (if_neg c7).symm.trans h
                refine lv_iload_n hx hb dX2_takeTarget_44 rfl (lv_at hl 3 rfl) ?_
                refine lv_iload_n hx hb dX2_takeTarget_45 rfl (lv_at hl 1 rfl) ?_
                refine lv_iload hx hb dX2_takeTarget_46 (lv_at hl 4 rfl) ?_
                obtain ⟨q8, hq8, h⟩ := bd_s h
                refine kSi (n := 2) (As := [.int p0, .int z6.2]) (rest := [.int z6.1]) hx hb hml hown hts (c_X2_ranTicks l G cI cJ cZ cO cA e _ p0 z6.2 hq8) (tb_S kw360 kw361 kw2 kw362) rfl rfl (by decide +kernel) ⟨Nat.le_of_ble_eq_true rfl, Nat.le_of_ble_eq_true rfl⟩ hK hP hD hS hA hE rfl rfl hl.1 (Nat.le_of_ble_eq_true rfl) ⟨Nat.zero_le _, Nat.zero_le _⟩ dX2_takeTarget_48 (fun H locs hP hD hS => ?_)
                refine lv_aload_n hx hb dX2_takeTarget_51 rfl (lv_at hl 0 rfl) ?_
                refine lv_iload hx hb dX2_takeTarget_52 (lv_at hl 4 rfl) ?_
                refine lv_iload_n hx hb dX2_takeTarget_54 rfl (lv_at hl 2 rfl) ?_
                obtain ⟨q9, hq9, h⟩ := bd_s h
                refine kVi (n := 2) (C := RX2) (ws' := wS cI cJ aS pr pu ta se qu im_5 su tc sc rc cn so ++ ([] : va_W)) (As := [.int z6.2, .int v2_5]) (rest := [.int q8, .int z6.1]) hx hb hml hown hts (c_X2_unitPart l G cI cJ cZ cO cA e aS _ pr pu ta se qu im_5 su tc sc rc cn so z6.2 v2_5 hq9) (tb_V kw363 kw250 kw251 kw2 kw252) rfl rfl (by decide +kernel) ⟨Nat.le_of_ble_eq_true rfl, Nat.le_of_ble_eq_true rfl⟩ hK hP hD hS hA hE 0 rfl rfl [0, 1, 2, 3, 4, 5, 6, 7] [] rfl rfl rfl 8 ⟨rfl, rfl⟩ (by decide +kernel) (by decide +kernel) rfl rfl hl.1 (Nat.le_of_ble_eq_true rfl) ⟨Nat.zero_le _, Nat.zero_le _⟩ dX2_takeTarget_55 (fun H locs hP hD hS => ?_)
                refine lv_imul hx hb dX2_takeTarget_58 ?_
                refine lv_isub hx hb dX2_takeTarget_59 ?_
                refine lv_istore_n (lv' := [(3, .int (z6.1 - (q8 * q9))), (0, .ref (aS 0)), (1, .int p0), (2, .int v2_5), (4, .int z6.2)]) hx hb dX2_takeTarget_60 rfl hl (by decide) rfl (fun ls hl => ?_)
                refine lv_iinc (v := (z6.2 + 1)) (lv' := [(4, .int (z6.2 + 1)), (3, .int (z6.1 - (q8 * q9))), (0, .ref (aS 0)), (1, .int p0), (2, .int v2_5)]) hx hb dX2_takeTarget_61 hl (k := 4) rfl rfl (by decide) rfl (fun ls hl => ?_)
                refine lv_goto (tgt := 35) hx hb dX2_takeTarget_64 (by decide) ?_
                rw [← Option.some.inj h] at h6
                exact ih6 ((z6.1 - (q8 * q9)), (z6.2 + 1)) _ _ _ (lp_b h6) hP hD hS (lv_sub hl [2, 3, 4, 1, 0] rfl)
          exact hL6 _ ((t1_5 + t0_5), 0) _ _ _ hq6 hP hD hS (lv_sub hl [2, 3, 4, 1, 0] rfl)
        refine lv_if_le (tgt := 29) hx hb dX2_takeTarget_17 (by decide) (fun c4 => ?_) (fun c4 => ?_)
        · replace h := (if_pos c4).symm.trans h
          refine lv_iconst (v := 0) hx hb dX2_takeTarget_29 (by decide) ?_
          exact hJ5 z1.1 z1.2 0 q3 _ _ _ h hP hD hS (lv_sub hl [0, 1, 2] rfl)
        · replace h := (if_neg c4).symm.trans h
          refine lv_aload_n hx hb dX2_takeTarget_20 rfl (lv_at hl 0 rfl) ?_
          refine va_get (D := G) (ci := 2) (v := .ref (aS 5)) (C := RX2) (T := TX2) (N := 12) hx hb hts uX2 hown hK hP 0 rfl rfl 4 (by decide) (hts _ kw34) (fun _ h9 => h9) rfl dX2_takeTarget_21 ?_
          refine lv_iload_n hx hb dX2_takeTarget_24 rfl (lv_at hl 2 rfl) ?_
          obtain ⟨g11, h⟩ := gd_s h
          refine va_iald hx hb hK hP 5 0 rfl rfl (ib_in g11) dX2_takeTarget_25 ?_
          refine lv_goto (tgt := 30) hx hb dX2_takeTarget_26 (by decide) ?_
          exact hJ5 z1.1 z1.2 (qu z1.2.toNatClampNeg) q3 _ _ _ h hP hD hS (lv_sub hl [0, 1, 2] rfl)
  exact hL1 _ (im, 0) _ _ _ hq1 hP hD hS (lv_sub hl [1, 2, 0] rfl)

/-! X2_setPulses -/
def f_X2_setPulses_j75 (pu : Nat → Int32) (v2 : Int32) (v3 : Int32) (t0 : Int32) (t1 : Int32) : Option (((Nat → Int32) × Int32 × Int32 × Int32) ⊕ ((Nat → Int32) × Int32 × Int32)) :=
  some (Sum.inl (pu, (t1 ||| t0), v2, (v3 + 1)))
def f_X2_setPulses_j51 (pr : Nat → Int32) (pu : Nat → Int32) (so : Int32) (v3 : Int32) (t0 : Int32) (t1 : Int32) : Option (((Nat → Int32) × Int32 × Int32 × Int32) ⊕ ((Nat → Int32) × Int32 × Int32)) :=
  (f_X2_property pr v3 6).bind (fun q9 => if q9 = 0 then (f_X2_setPulses_j75 pu (t1 ||| t0) v3 (1 <<< (v3 &&& 31)) so) else (f_X2_setPulses_j75 pu (t1 ||| t0) v3 0 so))
def f_X2_setPulses_b9 (sh : Nat → Int64) (de : Int64) (pr : Nat → Int32) (tc : Int32) (z1 : (Nat → Int32) × Int32 × Int32 × Int32) : Option (((Nat → Int32) × Int32 × Int32 × Int32) ⊕ ((Nat → Int32) × Int32 × Int32)) :=
  if tc ≤ z1.2.2.2 then (some (Sum.inr (z1.1, z1.2.1, z1.2.2.1))) else ((f_X2_property pr z1.2.2.2 5).bind (fun q3 => (f_X1_pulseOf sh de z1.2.2.2 q3).bind (fun q4 => gd (ib z1.2.2.2 8) (gd (ib z1.2.2.2 8) (if ((upd z1.1 z1.2.2.2.toNatClampNeg q4) z1.2.2.2.toNatClampNeg) ≤ 0 then (f_X2_setPulses_j51 pr (upd z1.1 z1.2.2.2.toNatClampNeg q4) z1.2.1 z1.2.2.2 0 z1.2.2.1) else (f_X2_setPulses_j51 pr (upd z1.1 z1.2.2.2.toNatClampNeg q4) z1.2.1 z1.2.2.2 (1 <<< (z1.2.2.2 &&& 31)) z1.2.2.1))))))
def f_X2_setPulses (sh : Nat → Int64) (de : Int64) (pr : Nat → Int32) (tc : Int32) (pu : Nat → Int32) (so : Int32) : Option (Int32 × (Nat → Int32) × Int32) :=
  (lp (f_X2_setPulses_b9 sh de pr tc) 1000 (pu, 0, 0, 0)).bind (fun q1 => some (q1.2.2, q1.1, q1.2.1))

set_option maxHeartbeats 4000000 in
set_option maxRecDepth 100000 in
theorem c_X2_setPulses (l : Launch) (G : va_G) (cI cJ cZ cO cA : ClassId) (e : Nat × Nat) (aE : Nat → Nat) (aR : Nat → Nat) (aS : Nat → Nat) (sz : Nat) (un : Nat → Nat → Int32) (tp : Nat → Int32) (sh : Nat → Int64) (de : Int64) (co : Int64) (ma : Int32) (ru : Int32) (fo : Int32) (pr : Nat → Int32) (pu : Nat → Int32) (ta : Nat → Int32) (se : Nat → Int32) (qu : Nat → Int32) (im : Nat → Int32) (su : Nat → Int64) (tc : Int32) (sc : Int32) (rc : Int32) (cn : Int32) (so : Int32) {res : Int32 × (Nat → Int32) × Int32} (hf : f_X2_setPulses sh de pr tc pu so = some res) : MetI l yX2_setPulses cX2_setPulses 4 .int ({ frames := 1, cells := 0, slots := 0, locals := 25 } : Room) [.ref (aS 0), .ref (aE 0)] G (ty5 cI cJ cZ cO cA) e (wE cI cJ cA aE aR un tp sh de co ma ru fo ++ (wS cI cJ aS pr pu ta se qu im su tc sc rc cn so ++ ([] : va_W))) (wE cI cJ cA aE aR un tp sh de co ma ru fo ++ (wS cI cJ aS pr res.2.1 ta se qu im su tc sc rc cn res.2.2 ++ ([] : va_W))) sz res.1 := by
  refine g_body (QQ := fun A => (qI G (ty5 cI cJ cZ cO cA) A (wE cI cJ cA aE aR un tp sh de co ma ru fo ++ (wS cI cJ aS pr res.2.1 ta se qu im su tc sc rc cn res.2.2 ++ ([] : va_W))) res.1)) (own := RX2) (by decide) rfl (Nat.le_of_ble_eq_true rfl) ?_
  intro p ev s m below meth c A ls hx hb hr hml hown hts hlk hA hP hD hS hK hE hl
  have hl : lv_has ls 4 [(0, .ref (aS 0)), (1, .ref (aE 0))] := hl
  show W p l ev ({ frames := 1, cells := 0, slots := 0, locals := 25 } : Room) s m ([.ref (aS 0), .ref (aE 0)] : List Value).toArray below meth c s.heap [] 0 0 (MQ below (qI G (ty5 cI cJ cZ cO cA) A (wE cI cJ cA aE aR un tp sh de co ma ru fo ++ (wS cI cJ aS pr res.2.1 ta se qu im su tc sc rc cn res.2.2 ++ ([] : va_W))) res.1) ([.ref (aS 0), .ref (aE 0)] : List Value).toArray s 0 0 A) (F0 m 0 ls [])
  have h := hf
  unfold f_X2_setPulses at h
  refine lv_iconst (v := 0) hx hb dX2_setPulses_0 (by decide) ?_
  refine lv_istore_n (lv' := [(2, .int 0), (0, .ref (aS 0)), (1, .ref (aE 0))]) hx hb dX2_setPulses_1 rfl hl (by decide) rfl (fun ls hl => ?_)
  refine lv_aload_n hx hb dX2_setPulses_2 rfl (lv_at hl 1 rfl) ?_
  refine lv_iconst (v := 0) hx hb dX2_setPulses_3 (by decide) ?_
  refine va_put (D := G) (ci := 2) (ty := .int) (v := .int 0) (C := RX2) (T := TX2) (N := 12) hx hb hts uX2 tyX2 tyX2_ok nmX2 hown hK hP hD hS 13 rfl rfl 11 (by decide) (hts _ kw49) (fun _ h9 => h9) rfl (by decide +kernel) rfl rfl (Nat.le_of_ble_eq_true rfl) dX2_setPulses_4 (fun H locs hP hD hS => ?_)
  have hP : va_P G vwCl (wE cI cJ cA aE aR un tp sh de co ma ru fo ++ (wS cI cJ aS pr pu ta se qu im su tc sc rc cn 0 ++ ([] : va_W))) H := hP
  have hD : va_D A (wE cI cJ cA aE aR un tp sh de co ma ru fo ++ (wS cI cJ aS pr pu ta se qu im su tc sc rc cn 0 ++ ([] : va_W))) := hD
  refine lv_iconst (v := 0) hx hb dX2_setPulses_7 (by decide) ?_
  refine lv_istore_n (lv' := [(3, .int 0), (2, .int 0), (0, .ref (aS 0)), (1, .ref (aE 0))]) hx hb dX2_setPulses_8 rfl hl (by decide) rfl (fun ls hl => ?_)
  obtain ⟨q1, hq1, h⟩ := bd_s h
  have hX1_0 : ∀ (x1 : (Nat → Int32) × Int32 × Int32) (H : Heap) (locs : List Loc) (ls : Array Slot), x1 = q1 → va_P G vwCl (wE cI cJ cA aE aR un tp sh de co ma ru fo ++ (wS cI cJ aS pr x1.1 ta se qu im su tc sc rc cn x1.2.1 ++ ([] : va_W))) H → va_D A (wE cI cJ cA aE aR un tp sh de co ma ru fo ++ (wS cI cJ aS pr x1.1 ta se qu im su tc sc rc cn x1.2.1 ++ ([] : va_W))) → va_S A s.heap H locs → lv_has ls 4 [(2, .int x1.2.2)] → W p l ev ({ frames := 1, cells := 0, slots := 0, locals := 25 } : Room) s m ([.ref (aS 0), .ref (aE 0)] : List Value).toArray below meth c H locs 0 0 (MQ below (qI G (ty5 cI cJ cZ cO cA) A (wE cI cJ cA aE aR un tp sh de co ma ru fo ++ (wS cI cJ aS pr res.2.1 ta se qu im su tc sc rc cn res.2.2 ++ ([] : va_W))) res.1) ([.ref (aS 0), .ref (aE 0)] : List Value).toArray s 0 0 A) (F0 m 85 ls []) := by
    intro x1 H locs ls e1 hP hD hS hl
    replace e1 := e1.symm
    subst e1
    refine lv_iload_n hx hb dX2_setPulses_85 rfl (lv_at hl 0 rfl) ?_
    rw [← Option.some.inj h]
    exact kri hx hb hr hlk rfl rfl hP hD hS hK dX2_setPulses_86
  have hL1 : ∀ (n : Nat) (z1 : (Nat → Int32) × Int32 × Int32 × Int32) (H : Heap) (locs : List Loc) (ls : Array Slot), lp (f_X2_setPulses_b9 sh de pr tc) n z1 = some q1 → va_P G vwCl (wE cI cJ cA aE aR un tp sh de co ma ru fo ++ (wS cI cJ aS pr z1.1 ta se qu im su tc sc rc cn z1.2.1 ++ ([] : va_W))) H → va_D A (wE cI cJ cA aE aR un tp sh de co ma ru fo ++ (wS cI cJ aS pr z1.1 ta se qu im su tc sc rc cn z1.2.1 ++ ([] : va_W))) → va_S A s.heap H locs → lv_has ls 4 [(0, .ref (aS 0)), (1, .ref (aE 0)), (2, .int z1.2.2.1), (3, .int z1.2.2.2)] → W p l ev ({ frames := 1, cells := 0, slots := 0, locals := 25 } : Room) s m ([.ref (aS 0), .ref (aE 0)] : List Value).toArray below meth c H locs 0 0 (MQ below (qI G (ty5 cI cJ cZ cO cA) A (wE cI cJ cA aE aR un tp sh de co ma ru fo ++ (wS cI cJ aS pr res.2.1 ta se qu im su tc sc rc cn res.2.2 ++ ([] : va_W))) res.1) ([.ref (aS 0), .ref (aE 0)] : List Value).toArray s 0 0 A) (F0 m 9 ls []) := by
    intro n
    induction n with
    | zero => intro z1 H locs ls h; cases h
    | succ n ih1 =>
      intro z1 H locs ls h hP hD hS hl
      obtain ⟨o1, h, h1⟩ := lp_s h
      unfold f_X2_setPulses_b9 at h
      refine lv_iload_n hx hb dX2_setPulses_9 rfl (lv_at hl 3 rfl) ?_
      refine lv_aload_n hx hb dX2_setPulses_10 rfl (lv_at hl 0 rfl) ?_
      refine va_get (D := G) (ci := 2) (v := .int tc) (C := RX2) (T := TX2) (N := 12) hx hb hts uX2 hown hK hP 13 rfl rfl 7 (by decide) (hts _ kw42) (fun _ h9 => h9) rfl dX2_setPulses_11 ?_
      refine lv_icmp_ge (tgt := 85) hx hb dX2_setPulses_14 (by decide) (fun c2 => ?_) (fun c2 => ?_)
      · replace h := (if_pos c2).symm.trans h
        rw [← Option.some.inj h] at h1
        exact hX1_0 (z1.1, z1.2.1, z1.2.2.1) _ _ _ (lp_x h1) hP hD hS (lv_sub hl [2] rfl)
      · replace h := (if_neg c2).symm.trans h
        refine lv_aload_n hx hb dX2_setPulses_17 rfl (lv_at hl 0 rfl) ?_
        refine va_get (D := G) (ci := 2) (v := .ref (aS 2)) (C := RX2) (T := TX2) (N := 12) hx hb hts uX2 hown hK hP 13 rfl rfl 1 (by decide) (hts _ kw29) (fun _ h9 => h9) rfl dX2_setPulses_18 ?_
        refine lv_iload_n hx hb dX2_setPulses_21 rfl (lv_at hl 3 rfl) ?_
        refine lv_aload_n hx hb dX2_setPulses_22 rfl (lv_at hl 1 rfl) ?_
        refine lv_iload_n hx hb dX2_setPulses_23 rfl (lv_at hl 3 rfl) ?_
        refine lv_aload_n hx hb dX2_setPulses_24 rfl (lv_at hl 0 rfl) ?_
        refine lv_iload_n hx hb dX2_setPulses_25 rfl (lv_at hl 3 rfl) ?_
        refine lv_iconst (v := 5) hx hb dX2_setPulses_26 (by decide) ?_
        obtain ⟨q3, hq3, h⟩ := bd_s h
        refine kVi (n := 2) (C := RX2) (ws' := wE cI cJ cA aE aR un tp sh de co ma ru fo ++ (wS cI cJ aS pr z1.1 ta se qu im su tc sc rc cn z1.2.1 ++ ([] : va_W))) (As := [.int z1.2.2.2, .int 5]) (rest := [.int z1.2.2.2, .ref (aE 0), .int z1.2.2.2, .ref (aS 2)]) hx hb hml hown hts (c_X2_property l G cI cJ cZ cO cA e aS _ pr z1.1 ta se qu im su tc sc rc cn z1.2.1 z1.2.2.2 5 hq3) (tb_V kw237 kw238 kw239 kw2 kw240) rfl rfl (by decide +kernel) ⟨Nat.le_of_ble_eq_true rfl, Nat.le_of_ble_eq_true rfl⟩ hK hP hD hS hA hE 13 rfl rfl [13, 14, 15, 16, 17, 18, 19, 20] [0, 1, 2, 3, 4, 5, 6, 7, 8, 9, 10, 11, 12] rfl rfl rfl 21 ⟨rfl, rfl⟩ (by decide +kernel) (by decide +kernel) rfl rfl hl.1 (Nat.le_of_ble_eq_true rfl) ⟨Nat.zero_le _, Nat.zero_le _⟩ dX2_setPulses_27 (fun H locs hP hD hS => ?_)
        obtain ⟨q4, hq4, h⟩ := bd_s h
        refine kVi (n := 2) (C := RX1) (ws' := wE cI cJ cA aE aR un tp sh de co ma ru fo ++ (wS cI cJ aS pr z1.1 ta se qu im su tc sc rc cn z1.2.1 ++ ([] : va_W))) (As := [.int z1.2.2.2, .int q3]) (rest := [.int z1.2.2.2, .ref (aS 2)]) hx hb hml hown hts (c_X1_pulseOf l G cI cJ cZ cO cA e aE aR _ un tp sh de co ma ru fo z1.2.2.2 q3 hq4) (tb_V kw373 kw340 kw341 kw5 kw342) rfl rfl (by decide +kernel) ⟨Nat.le_of_ble_eq_true rfl, Nat.le_of_ble_eq_true rfl⟩ hK hP hD hS hA hE 0 rfl rfl [0, 1, 2, 3, 4, 5, 6, 7, 8, 9, 10, 11, 12] [13, 14, 15, 16, 17, 18, 19, 20] rfl rfl rfl 21 ⟨rfl, rfl⟩ (by decide +kernel) (by decide +kernel) rfl rfl hl.1 (Nat.le_of_ble_eq_true rfl) ⟨Nat.zero_le _, Nat.zero_le _⟩ dX2_setPulses_30 (fun H locs hP hD hS => ?_)
        obtain ⟨g5, h⟩ := gd_s h
        refine va_iast hx hb hK hP hD hS 15 0 rfl rfl (ib_in g5) dX2_setPulses_33 (fun H locs hP hD hS => ?_)
        have hP : va_P G vwCl (wE cI cJ cA aE aR un tp sh de co ma ru fo ++ (wS cI cJ aS pr (upd z1.1 z1.2.2.2.toNatClampNeg q4) ta se qu im su tc sc rc cn z1.2.1 ++ ([] : va_W))) H := hP
        have hD : va_D A (wE cI cJ cA aE aR un tp sh de co ma ru fo ++ (wS cI cJ aS pr (upd z1.1 z1.2.2.2.toNatClampNeg q4) ta se qu im su tc sc rc cn z1.2.1 ++ ([] : va_W))) := hD
        refine lv_iload_n hx hb dX2_setPulses_34 rfl (lv_at hl 2 rfl) ?_
        refine lv_aload_n hx hb dX2_setPulses_35 rfl (lv_at hl 0 rfl) ?_
        refine va_get (D := G) (ci := 2) (v := .ref (aS 2)) (C := RX2) (T := TX2) (N := 12) hx hb hts uX2 hown hK hP 13 rfl rfl 1 (by decide) (hts _ kw29) (fun _ h9 => h9) rfl dX2_setPulses_36 ?_
        refine lv_iload_n hx hb dX2_setPulses_39 rfl (lv_at hl 3 rfl) ?_
        obtain ⟨g6, h⟩ := gd_s h
        refine va_iald hx hb hK hP 15 0 rfl rfl (ib_in g6) dX2_setPulses_40 ?_
        have hJ8 : ∀ (pu_8 : Nat → Int32) (so_8 : Int32) (v3_8 : Int32) (t0_8 : Int32) (t1_8 : Int32) (H : Heap) (locs : List Loc) (ls : Array Slot), f_X2_setPulses_j51 pr pu_8 so_8 v3_8 t0_8 t1_8 = some o1 → va_P G vwCl (wE cI cJ cA aE aR un tp sh de co ma ru fo ++ (wS cI cJ aS pr pu_8 ta se qu im su tc sc rc cn so_8 ++ ([] : va_W))) H → va_D A (wE cI cJ cA aE aR un tp sh de co ma ru fo ++ (wS cI cJ aS pr pu_8 ta se qu im su tc sc rc cn so_8 ++ ([] : va_W))) → va_S A s.heap H locs → lv_has ls 4 [(0, .ref (aS 0)), (1, .ref (aE 0)), (3, .int v3_8)] → W p l ev ({ frames := 1, cells := 0, slots := 0, locals := 25 } : Room) s m ([.ref (aS 0), .ref (aE 0)] : List Value).toArray below meth c H locs 0 0 (MQ below (qI G (ty5 cI cJ cZ cO cA) A (wE cI cJ cA aE aR un tp sh de co ma ru fo ++ (wS cI cJ aS pr res.2.1 ta se qu im su tc sc rc cn res.2.2 ++ ([] : va_W))) res.1) ([.ref (aS 0), .ref (aE 0)] : List Value).toArray s 0 0 A) (F0 m 51 ls [.int t0_8, .int t1_8]) := by
          intro pu_8 so_8 v3_8 t0_8 t1_8 H locs ls h hP hD hS hl
          unfold f_X2_setPulses_j51 at h
          refine lv_ior hx hb dX2_setPulses_51 ?_
          refine lv_istore_n (lv' := [(2, .int (t1_8 ||| t0_8)), (0, .ref (aS 0)), (1, .ref (aE 0)), (3, .int v3_8)]) hx hb dX2_setPulses_52 rfl hl (by decide) rfl (fun ls hl => ?_)
          refine lv_aload_n hx hb dX2_setPulses_53 rfl (lv_at hl 1 rfl) ?_
          refine lv_dup hx hb dX2_setPulses_54 rfl ?_
          refine va_get (D := G) (ci := 2) (v := .int so_8) (C := RX2) (T := TX2) (N := 12) hx hb hts uX2 hown hK hP 13 rfl rfl 11 (by decide) (hts _ kw49) (fun _ h9 => h9) rfl dX2_setPulses_55 ?_
          refine lv_aload_n hx hb dX2_setPulses_58 rfl (lv_at hl 1 rfl) ?_
          refine lv_iload_n hx hb dX2_setPulses_59 rfl (lv_at hl 3 rfl) ?_
          refine lv_bipush (v := 6) hx hb dX2_setPulses_60 (by decide) ?_
          obtain ⟨q9, hq9, h⟩ := bd_s h
          refine kVi (n := 2) (C := RX2) (ws' := wE cI cJ cA aE aR un tp sh de co ma ru fo ++ (wS cI cJ aS pr pu_8 ta se qu im su tc sc rc cn so_8 ++ ([] : va_W))) (As := [.int v3_8, .int 6]) (rest := [.int so_8, .ref (aS 0)]) hx hb hml hown hts (c_X2_property l G cI cJ cZ cO cA e aS _ pr pu_8 ta se qu im su tc sc rc cn so_8 v3_8 6 hq9) (tb_V kw237 kw238 kw239 kw2 kw240) rfl rfl (by decide +kernel) ⟨Nat.le_of_ble_eq_true rfl, Nat.le_of_ble_eq_true rfl⟩ hK hP hD hS hA hE 13 rfl rfl [13, 14, 15, 16, 17, 18, 19, 20] [0, 1, 2, 3, 4, 5, 6, 7, 8, 9, 10, 11, 12] rfl rfl rfl 21 ⟨rfl, rfl⟩ (by decide +kernel) (by decide +kernel) rfl rfl hl.1 (Nat.le_of_ble_eq_true rfl) ⟨Nat.zero_le _, Nat.zero_le _⟩ dX2_setPulses_62 (fun H locs hP hD hS => ?_)
          have hJ11 : ∀ (pu_11 : Nat → Int32) (so_11 : Int32) (v2_11 : Int32) (v3_11 : Int32) (t0_11 : Int32) (t1_11 : Int32) (H : Heap) (locs : List Loc) (ls : Array Slot), f_X2_setPulses_j75 pu_11 v2_11 v3_11 t0_11 t1_11 = some o1 → va_P G vwCl (wE cI cJ cA aE aR un tp sh de co ma ru fo ++ (wS cI cJ aS pr pu_11 ta se qu im su tc sc rc cn so_11 ++ ([] : va_W))) H → va_D A (wE cI cJ cA aE aR un tp sh de co ma ru fo ++ (wS cI cJ aS pr pu_11 ta se qu im su tc sc rc cn so_11 ++ ([] : va_W))) → va_S A s.heap H locs → lv_has ls 4 [(0, .ref (aS 0)), (1, .ref (aE 0)), (2, .int v2_11), (3, .int v3_11)] → W p l ev ({ frames := 1, cells := 0, slots := 0, locals := 25 } : Room) s m ([.ref (aS 0), .ref (aE 0)] : List Value).toArray below meth c H locs 0 0 (MQ below (qI G (ty5 cI cJ cZ cO cA) A (wE cI cJ cA aE aR un tp sh de co ma ru fo ++ (wS cI cJ aS pr res.2.1 ta se qu im su tc sc rc cn res.2.2 ++ ([] : va_W))) res.1) ([.ref (aS 0), .ref (aE 0)] : List Value).toArray s 0 0 A) (F0 m 75 ls [.int t0_11, .int t1_11, .ref (aS 0)]) := by
            intro pu_11 so_11 v2_11 v3_11 t0_11 t1_11 H locs ls h hP hD hS hl
            unfold f_X2_setPulses_j75 at h
            refine lv_ior hx hb dX2_setPulses_75 ?_
            refine va_put (D := G) (ci := 2) (ty := .int) (v := .int (t1_11 ||| t0_11)) (C := RX2) (T := TX2) (N := 12) hx hb hts uX2 tyX2 tyX2_ok nmX2 hown hK hP hD hS 13 rfl rfl 11 (by decide) (hts _ kw49) (fun _ h9 => h9) rfl (by decide +kernel) rfl rfl (Nat.le_of_ble_eq_true rfl) dX2_setPulses_76 (fun H locs hP hD hS => ?_)
            have hP : va_P G vwCl (wE cI cJ cA aE aR un tp sh de co ma ru fo ++ (wS cI cJ aS pr pu_11 ta se qu im su tc sc rc cn (t1_11 ||| t0_11) ++ ([] : va_W))) H := hP
            have hD : va_D A (wE cI cJ cA aE aR un tp sh de co ma ru fo ++ (wS cI cJ aS pr pu_11 ta se qu im su tc sc rc cn (t1_11 ||| t0_11) ++ ([] : va_W))) := hD
            refine lv_iinc (v := (v3_11 + 1)) (lv' := [(3, .int (v3_11 + 1)), (0, .ref (aS 0)), (1, .ref (aE 0)), (2, .int v2_11)]) hx hb dX2_setPulses_79 hl (k := 3) rfl rfl (by decide) rfl (fun ls hl => ?_)
            refine lv_goto (tgt := 9) hx hb dX2_setPulses_82 (by decide) ?_
            rw [← Option.some.inj h] at h1
            exact ih1 (pu_11, (t1_11 ||| t0_11), v2_11, (v3_11 + 1)) _ _ _ (lp_b h1) hP hD hS (lv_sub hl [1, 2, 3, 0] rfl)
          refine lv_if_ne (tgt := 74) hx hb dX2_setPulses_65 (by decide) (fun c10 => ?_) (fun c10 => ?_)
          · replace h := (if_neg c10).symm.trans h
            refine lv_iconst (v := 0) hx hb dX2_setPulses_74 (by decide) ?_
            exact hJ11 pu_8 so_8 (t1_8 ||| t0_8) v3_8 0 so_8 _ _ _ h hP hD hS (lv_sub hl [1, 2, 0, 3] rfl)
          · replace h := (if_pos c10).symm.trans h
            refine lv_iconst (v := 1) hx hb dX2_setPulses_68 (by decide) ?_
            refine lv_iload_n hx hb dX2_setPulses_69 rfl (lv_at hl 3 rfl) ?_
            refine lv_ishl hx hb dX2_setPulses_70 ?_
            refine lv_goto (tgt := 75) hx hb dX2_setPulses_71 (by decide) ?_
            exact hJ11 pu_8 so_8 (t1_8 ||| t0_8) v3_8 (1 <<< (v3_8 &&& 31)) so_8 _ _ _ h hP hD hS (lv_sub hl [1, 2, 0, 3] rfl)
        refine lv_if_le (tgt := 50) hx hb dX2_setPulses_41 (by decide) (fun c7 => ?_) (fun c7 => ?_)
        · replace h := (if_pos c7).symm.trans h
          refine lv_iconst (v := 0) hx hb dX2_setPulses_50 (by decide) ?_
          exact hJ8 (upd z1.1 z1.2.2.2.toNatClampNeg q4) z1.2.1 z1.2.2.2 0 z1.2.2.1 _ _ _ h hP hD hS (lv_sub hl [0, 1, 3] rfl)
        · replace h := (if_neg c7).symm.trans h
          refine lv_iconst (v := 1) hx hb dX2_setPulses_44 (by decide) ?_
          refine lv_iload_n hx hb dX2_setPulses_45 rfl (lv_at hl 3 rfl) ?_
          refine lv_ishl hx hb dX2_setPulses_46 ?_
          refine lv_goto (tgt := 51) hx hb dX2_setPulses_47 (by decide) ?_
          exact hJ8 (upd z1.1 z1.2.2.2.toNatClampNeg q4) z1.2.1 z1.2.2.2 (1 <<< (z1.2.2.2 &&& 31)) z1.2.2.1 _ _ _ h hP hD hS (lv_sub hl [0, 1, 3] rfl)
  exact hL1 _ (pu, 0, 0, 0) _ _ _ hq1 hP hD hS (lv_sub hl [2, 3, 1, 0] rfl)

/-! X2_deliver -/
def f_X2_deliver_b15 (pr : Nat → Int32) (pu : Nat → Int32) (tc : Int32) (v1 : Int32) (v2 : Int32) (z3 : Int32 × Int32 × Int32) : Option ((Int32 × Int32 × Int32) ⊕ (Int32 × Int32)) :=
  if tc ≤ z3.2.2 then (some (Sum.inr (z3.1, z3.2.1))) else (gd (ib z3.2.2 8) ((f_X2_unitPart pr z3.2.2 v2).bind (fun q6 => (f_X2_ranTicks v1 z3.2.2).bind (fun q7 => (f_X2_unitPart pr z3.2.2 v2).bind (fun q8 => some (Sum.inl ((z3.1 + ((pu z3.2.2.toNatClampNeg) * q6)), (z3.2.1 + (q7 * q8)), (z3.2.2 + 1))))))))
def f_X2_deliver_b2 (pr : Nat → Int32) (pu : Nat → Int32) (tc : Int32) (v1 : Int32) (z1 : (Nat → Int32) × (Nat → Int64) × Int32) : Option (((Nat → Int32) × (Nat → Int64) × Int32) ⊕ ((Nat → Int32) × (Nat → Int64))) :=
  if 3 ≤ z1.2.2 then (some (Sum.inr (z1.1, z1.2.1))) else ((lp (f_X2_deliver_b15 pr pu tc v1 z1.2.2) 1000 (0, 0, 0)).bind (fun q3 => (f_X2_impulsePart z1.1 2 z1.2.2).bind (fun q9 => gd (ib (0 + z1.2.2) 9) (gd (ib (3 + z1.2.2) 9) (gd (ib z1.2.2 3) (gd (ib z1.2.2 3) (some (Sum.inl ((upd (upd z1.1 (0 + z1.2.2).toNatClampNeg (if (-4000) < (if (q9 - q3.1) < 4000 then (q9 - q3.1) else 4000) then (if (q9 - q3.1) < 4000 then (q9 - q3.1) else 4000) else (-4000))) (3 + z1.2.2).toNatClampNeg (q3.1 + q3.2)), (vp_updL z1.2.1 z1.2.2.toNatClampNeg ((z1.2.1 z1.2.2.toNatClampNeg) + ((q3.1 + q3.2).toInt64))), (z1.2.2 + 1))))))))))
def f_X2_deliver (pr : Nat → Int32) (pu : Nat → Int32) (tc : Int32) (im : Nat → Int32) (su : Nat → Int64) (p0 : Int32) : Option ((Nat → Int32) × (Nat → Int64)) :=
  (lp (f_X2_deliver_b2 pr pu tc p0) 1000 (im, su, 0)).bind (fun q1 => some (q1.1, q1.2))

set_option maxHeartbeats 4000000 in
set_option maxRecDepth 100000 in
theorem c_X2_deliver (l : Launch) (G : va_G) (cI cJ cZ cO cA : ClassId) (e : Nat × Nat) (aS : Nat → Nat) (sz : Nat) (pr : Nat → Int32) (pu : Nat → Int32) (ta : Nat → Int32) (se : Nat → Int32) (qu : Nat → Int32) (im : Nat → Int32) (su : Nat → Int64) (tc : Int32) (sc : Int32) (rc : Int32) (cn : Int32) (so : Int32) (p0 : Int32) {res : (Nat → Int32) × (Nat → Int64)} (hf : f_X2_deliver pr pu tc im su p0 = some res) : MetV l yX2_deliver cX2_deliver 6 ({ frames := 2, cells := 0, slots := 0, locals := 47 } : Room) [.ref (aS 0), .int p0] G (ty5 cI cJ cZ cO cA) e (wS cI cJ aS pr pu ta se qu im su tc sc rc cn so ++ ([] : va_W)) (wS cI cJ aS pr pu ta se qu res.1 res.2 tc sc rc cn so ++ ([] : va_W)) sz := by
  refine g_body (QQ := fun A => (qV G (ty5 cI cJ cZ cO cA) A (wS cI cJ aS pr pu ta se qu res.1 res.2 tc sc rc cn so ++ ([] : va_W)))) (own := RX2) (by decide) rfl (Nat.le_of_ble_eq_true rfl) ?_
  intro p ev s m below meth c A ls hx hb hr hml hown hts hlk hA hP hD hS hK hE hl
  have hl : lv_has ls 6 [(0, .ref (aS 0)), (1, .int p0)] := hl
  show W p l ev ({ frames := 2, cells := 0, slots := 0, locals := 47 } : Room) s m ([.ref (aS 0), .int p0] : List Value).toArray below meth c s.heap [] 0 0 (MQ below (qV G (ty5 cI cJ cZ cO cA) A (wS cI cJ aS pr pu ta se qu res.1 res.2 tc sc rc cn so ++ ([] : va_W))) ([.ref (aS 0), .int p0] : List Value).toArray s 0 0 A) (F0 m 0 ls [])
  have h := hf
  unfold f_X2_deliver at h
  refine lv_iconst (v := 0) hx hb dX2_deliver_0 (by decide) ?_
  refine lv_istore_n (lv' := [(2, .int 0), (0, .ref (aS 0)), (1, .int p0)]) hx hb dX2_deliver_1 rfl hl (by decide) rfl (fun ls hl => ?_)
  obtain ⟨q1, hq1, h⟩ := bd_s h
  have hX1_0 : ∀ (x1 : (Nat → Int32) × (Nat → Int64)) (H : Heap) (locs : List Loc) (ls : Array Slot), x1 = q1 → va_P G vwCl (wS cI cJ aS pr pu ta se qu x1.1 x1.2 tc sc rc cn so ++ ([] : va_W)) H → va_D A (wS cI cJ aS pr pu ta se qu x1.1 x1.2 tc sc rc cn so ++ ([] : va_W)) → va_S A s.heap H locs → lv_has ls 6 [] → W p l ev ({ frames := 2, cells := 0, slots := 0, locals := 47 } : Room) s m ([.ref (aS 0), .int p0] : List Value).toArray below meth c H locs 0 0 (MQ below (qV G (ty5 cI cJ cZ cO cA) A (wS cI cJ aS pr pu ta se qu res.1 res.2 tc sc rc cn so ++ ([] : va_W))) ([.ref (aS 0), .int p0] : List Value).toArray s 0 0 A) (F0 m 131 ls []) := by
    intro x1 H locs ls e1 hP hD hS hl
    replace e1 := e1.symm
    subst e1
    rw [← Option.some.inj h]
    exact krv hx hb hr hlk hP hD hS hK dX2_deliver_131
  have hL1 : ∀ (n : Nat) (z1 : (Nat → Int32) × (Nat → Int64) × Int32) (H : Heap) (locs : List Loc) (ls : Array Slot), lp (f_X2_deliver_b2 pr pu tc p0) n z1 = some q1 → va_P G vwCl (wS cI cJ aS pr pu ta se qu z1.1 z1.2.1 tc sc rc cn so ++ ([] : va_W)) H → va_D A (wS cI cJ aS pr pu ta se qu z1.1 z1.2.1 tc sc rc cn so ++ ([] : va_W)) → va_S A s.heap H locs → lv_has ls 6 [(0, .ref (aS 0)), (1, .int p0), (2, .int z1.2.2)] → W p l ev ({ frames := 2, cells := 0, slots := 0, locals := 47 } : Room) s m ([.ref (aS 0), .int p0] : List Value).toArray below meth c H locs 0 0 (MQ below (qV G (ty5 cI cJ cZ cO cA) A (wS cI cJ aS pr pu ta se qu res.1 res.2 tc sc rc cn so ++ ([] : va_W))) ([.ref (aS 0), .int p0] : List Value).toArray s 0 0 A) (F0 m 2 ls []) := by
    intro n
    induction n with
    | zero => intro z1 H locs ls h; cases h
    | succ n ih1 =>
      intro z1 H locs ls h hP hD hS hl
      obtain ⟨o1, h, h1⟩ := lp_s h
      unfold f_X2_deliver_b2 at h
      refine lv_iload_n hx hb dX2_deliver_2 rfl (lv_at hl 2 rfl) ?_
      refine lv_iconst (v := 3) hx hb dX2_deliver_3 (by decide) ?_
      refine lv_icmp_ge (tgt := 131) hx hb dX2_deliver_4 (by decide) (fun c2 => ?_) (fun c2 => ?_)
      · replace h := (if_pos c2).symm.trans h
        rw [← Option.some.inj h] at h1
        exact hX1_0 (z1.1, z1.2.1) _ _ _ (lp_x h1) hP hD hS (lv_sub hl [] rfl)
      · replace h := (if_neg c2).symm.trans h
        refine lv_iconst (v := 0) hx hb dX2_deliver_7 (by decide) ?_
        refine lv_istore_n (lv' := [(3, .int 0), (0, .ref (aS 0)), (1, .int p0), (2, .int z1.2.2)]) hx hb dX2_deliver_8 rfl hl (by decide) rfl (fun ls hl => ?_)
        refine lv_iconst (v := 0) hx hb dX2_deliver_9 (by decide) ?_
        refine lv_istore (lv' := [(4, .int 0), (3, .int 0), (0, .ref (aS 0)), (1, .int p0), (2, .int z1.2.2)]) hx hb dX2_deliver_10 hl (by decide) rfl (fun ls hl => ?_)
        refine lv_iconst (v := 0) hx hb dX2_deliver_12 (by decide) ?_
        refine lv_istore (lv' := [(5, .int 0), (4, .int 0), (3, .int 0), (0, .ref (aS 0)), (1, .int p0), (2, .int z1.2.2)]) hx hb dX2_deliver_13 hl (by decide) rfl (fun ls hl => ?_)
        obtain ⟨q3, hq3, h⟩ := bd_s h
        have hX3_0 : ∀ (x3 : Int32 × Int32) (H : Heap) (locs : List Loc) (ls : Array Slot), x3 = q3 → va_P G vwCl (wS cI cJ aS pr pu ta se qu z1.1 z1.2.1 tc sc rc cn so ++ ([] : va_W)) H → va_D A (wS cI cJ aS pr pu ta se qu z1.1 z1.2.1 tc sc rc cn so ++ ([] : va_W)) → va_S A s.heap H locs → lv_has ls 6 [(0, .ref (aS 0)), (1, .int p0), (2, .int z1.2.2), (3, .int x3.1), (4, .int x3.2)] → W p l ev ({ frames := 2, cells := 0, slots := 0, locals := 47 } : Room) s m ([.ref (aS 0), .int p0] : List Value).toArray below meth c H locs 0 0 (MQ below (qV G (ty5 cI cJ cZ cO cA) A (wS cI cJ aS pr pu ta se qu res.1 res.2 tc sc rc cn so ++ ([] : va_W))) ([.ref (aS 0), .int p0] : List Value).toArray s 0 0 A) (F0 m 67 ls []) := by
          intro x3 H locs ls e3 hP hD hS hl
          replace e3 := e3.symm
          subst e3
          refine lv_aload_n hx hb dX2_deliver_67 rfl (lv_at hl 0 rfl) ?_
          refine lv_iconst (v := 2) hx hb dX2_deliver_68 (by decide) ?_
          refine lv_iload_n hx hb dX2_deliver_69 rfl (lv_at hl 2 rfl) ?_
          obtain ⟨q9, hq9, h⟩ := bd_s h
          refine kVi (n := 2) (C := RX2) (ws' := wS cI cJ aS pr pu ta se qu z1.1 z1.2.1 tc sc rc cn so ++ ([] : va_W)) (As := [.int 2, .int z1.2.2]) (rest := []) hx hb hml hown hts (c_X2_impulsePart l G cI cJ cZ cO cA e aS _ pr pu ta se qu z1.1 z1.2.1 tc sc rc cn so 2 z1.2.2 hq9) (tb_V kw356 kw357 kw358 kw2 kw359) rfl rfl (by decide +kernel) ⟨Nat.le_of_ble_eq_true rfl, Nat.le_of_ble_eq_true rfl⟩ hK hP hD hS hA hE 0 rfl rfl [0, 1, 2, 3, 4, 5, 6, 7] [] rfl rfl rfl 8 ⟨rfl, rfl⟩ (by decide +kernel) (by decide +kernel) rfl rfl hl.1 (Nat.le_of_ble_eq_true rfl) ⟨Nat.zero_le _, Nat.zero_le _⟩ dX2_deliver_70 (fun H locs hP hD hS => ?_)
          refine lv_iload_n hx hb dX2_deliver_73 rfl (lv_at hl 3 rfl) ?_
          refine lv_isub hx hb dX2_deliver_74 ?_
          refine lv_istore (lv' := [(5, .int (q9 - q3.1)), (0, .ref (aS 0)), (1, .int p0), (2, .int z1.2.2), (3, .int q3.1), (4, .int q3.2)]) hx hb dX2_deliver_75 hl (by decide) rfl (fun ls hl => ?_)
          refine lv_aload_n hx hb dX2_deliver_77 rfl (lv_at hl 1 rfl) ?_
          refine va_get (D := G) (ci := 2) (v := .ref (aS 6)) (C := RX2) (T := TX2) (N := 12) hx hb hts uX2 hown hK hP 0 rfl rfl 5 (by decide) (hts _ kw36) (fun _ h9 => h9) rfl dX2_deliver_78 ?_
          refine lv_iconst (v := 0) hx hb dX2_deliver_81 (by decide) ?_
          refine lv_iload_n hx hb dX2_deliver_82 rfl (lv_at hl 3 rfl) ?_
          refine lv_iadd hx hb dX2_deliver_83 ?_
          refine lv_sipush (v := (-4000)) hx hb dX2_deliver_84 (by decide) ?_
          refine lv_sipush (v := 4000) hx hb dX2_deliver_87 (by decide) ?_
          refine lv_iload hx hb dX2_deliver_90 (lv_at hl 0 rfl) ?_
          refine va_mmin hx hb (hml.trans hl.1.symm) hown (hts _ kw378) (hts _ kw379) (hts _ kw8) (hts _ kw380) (Nat.le_of_ble_eq_true rfl) (Nat.le_of_ble_eq_true rfl) (Nat.zero_le _) (Nat.zero_le _) dX2_deliver_92 ?_
          refine va_mmax hx hb (hml.trans hl.1.symm) hown (hts _ kw381) (hts _ kw382) (hts _ kw8) (hts _ kw383) (Nat.le_of_ble_eq_true rfl) (Nat.le_of_ble_eq_true rfl) (Nat.zero_le _) (Nat.zero_le _) dX2_deliver_95 ?_
          obtain ⟨g10, h⟩ := gd_s h
          refine va_iast hx hb hK hP hD hS 6 0 rfl rfl (ib_in g10) dX2_deliver_98 (fun H locs hP hD hS => ?_)
          have hP : va_P G vwCl (wS cI cJ aS pr pu ta se qu (upd z1.1 (0 + z1.2.2).toNatClampNeg (if (-4000) < (if (q9 - q3.1) < 4000 then (q9 - q3.1) else 4000) then (if (q9 - q3.1) < 4000 then (q9 - q3.1) else 4000) else (-4000))) z1.2.1 tc sc rc cn so ++ ([] : va_W)) H := hP
          have hD : va_D A (wS cI cJ aS pr pu ta se qu (upd z1.1 (0 + z1.2.2).toNatClampNeg (if (-4000) < (if (q9 - q3.1) < 4000 then (q9 - q3.1) else 4000) then (if (q9 - q3.1) < 4000 then (q9 - q3.1) else 4000) else (-4000))) z1.2.1 tc sc rc cn so ++ ([] : va_W)) := hD
          refine lv_aload_n hx hb dX2_deliver_99 rfl (lv_at hl 1 rfl) ?_
          refine va_get (D := G) (ci := 2) (v := .ref (aS 6)) (C := RX2) (T := TX2) (N := 12) hx hb hts uX2 hown hK hP 0 rfl rfl 5 (by decide) (hts _ kw36) (fun _ h9 => h9) rfl dX2_deliver_100 ?_
          refine lv_iconst (v := 3) hx hb dX2_deliver_103 (by decide) ?_
          refine lv_iload_n hx hb dX2_deliver_104 rfl (lv_at hl 3 rfl) ?_
          refine lv_iadd hx hb dX2_deliver_105 ?_
          refine lv_iload_n hx hb dX2_deliver_106 rfl (lv_at hl 4 rfl) ?_
          refine lv_iload hx hb dX2_deliver_107 (lv_at hl 5 rfl) ?_
          refine lv_iadd hx hb dX2_deliver_109 ?_
          obtain ⟨g11, h⟩ := gd_s h
          refine va_iast hx hb hK hP hD hS 6 0 rfl rfl (ib_in g11) dX2_deliver_110 (fun H locs hP hD hS => ?_)
          have hP : va_P G vwCl (wS cI cJ aS pr pu ta se qu (upd (upd z1.1 (0 + z1.2.2).toNatClampNeg (if (-4000) < (if (q9 - q3.1) < 4000 then (q9 - q3.1) else 4000) then (if (q9 - q3.1) < 4000 then (q9 - q3.1) else 4000) else (-4000))) (3 + z1.2.2).toNatClampNeg (q3.1 + q3.2)) z1.2.1 tc sc rc cn so ++ ([] : va_W)) H := hP
          have hD : va_D A (wS cI cJ aS pr pu ta se qu (upd (upd z1.1 (0 + z1.2.2).toNatClampNeg (if (-4000) < (if (q9 - q3.1) < 4000 then (q9 - q3.1) else 4000) then (if (q9 - q3.1) < 4000 then (q9 - q3.1) else 4000) else (-4000))) (3 + z1.2.2).toNatClampNeg (q3.1 + q3.2)) z1.2.1 tc sc rc cn so ++ ([] : va_W)) := hD
          refine lv_aload_n hx hb dX2_deliver_111 rfl (lv_at hl 1 rfl) ?_
          refine va_get (D := G) (ci := 2) (v := .ref (aS 7)) (C := RX2) (T := TX2) (N := 12) hx hb hts uX2 hown hK hP 0 rfl rfl 6 (by decide) (hts _ kw38) (fun _ h9 => h9) rfl dX2_deliver_112 ?_
          refine lv_iload_n hx hb dX2_deliver_115 rfl (lv_at hl 3 rfl) ?_
          refine lv_dup2_11 hx hb dX2_deliver_116 rfl rfl ?_
          obtain ⟨g12, h⟩ := gd_s h
          refine va_lald hx hb hK hP 7 1 rfl rfl (ib_in g12) dX2_deliver_117 ?_
          refine lv_iload_n hx hb dX2_deliver_118 rfl (lv_at hl 4 rfl) ?_
          refine lv_iload hx hb dX2_deliver_119 (lv_at hl 5 rfl) ?_
          refine lv_iadd hx hb dX2_deliver_121 ?_
          refine lv_i2l (v := (q3.1 + q3.2).toInt64) hx hb dX2_deliver_122 rfl ?_
          refine lv_ladd hx hb dX2_deliver_123 ?_
          obtain ⟨g13, h⟩ := gd_s h
          refine va_last hx hb hK hP hD hS 7 1 rfl rfl (ib_in g13) dX2_deliver_124 (fun H locs hP hD hS => ?_)
          have hP : va_P G vwCl (wS cI cJ aS pr pu ta se qu (upd (upd z1.1 (0 + z1.2.2).toNatClampNeg (if (-4000) < (if (q9 - q3.1) < 4000 then (q9 - q3.1) else 4000) then (if (q9 - q3.1) < 4000 then (q9 - q3.1) else 4000) else (-4000))) (3 + z1.2.2).toNatClampNeg (q3.1 + q3.2)) (vp_updL z1.2.1 z1.2.2.toNatClampNeg ((z1.2.1 z1.2.2.toNatClampNeg) + ((q3.1 + q3.2).toInt64))) tc sc rc cn so ++ ([] : va_W)) H := hP
          have hD : va_D A (wS cI cJ aS pr pu ta se qu (upd (upd z1.1 (0 + z1.2.2).toNatClampNeg (if (-4000) < (if (q9 - q3.1) < 4000 then (q9 - q3.1) else 4000) then (if (q9 - q3.1) < 4000 then (q9 - q3.1) else 4000) else (-4000))) (3 + z1.2.2).toNatClampNeg (q3.1 + q3.2)) (vp_updL z1.2.1 z1.2.2.toNatClampNeg ((z1.2.1 z1.2.2.toNatClampNeg) + ((q3.1 + q3.2).toInt64))) tc sc rc cn so ++ ([] : va_W)) := hD
          refine lv_iinc (v := (z1.2.2 + 1)) (lv' := [(2, .int (z1.2.2 + 1)), (5, .int (q9 - q3.1)), (0, .ref (aS 0)), (1, .int p0), (3, .int q3.1), (4, .int q3.2)]) hx hb dX2_deliver_125 hl (k := 3) rfl rfl (by decide) rfl (fun ls hl => ?_)
          refine lv_goto (tgt := 2) hx hb dX2_deliver_128 (by decide) ?_
          rw [← Option.some.inj h] at h1
          exact ih1 ((upd (upd z1.1 (0 + z1.2.2).toNatClampNeg (if (-4000) < (if (q9 - q3.1) < 4000 then (q9 - q3.1) else 4000) then (if (q9 - q3.1) < 4000 then (q9 - q3.1) else 4000) else (-4000))) (3 + z1.2.2).toNatClampNeg (q3.1 + q3.2)), (vp_updL z1.2.1 z1.2.2.toNatClampNeg ((z1.2.1 z1.2.2.toNatClampNeg) + ((q3.1 + q3.2).toInt64))), (z1.2.2 + 1)) _ _ _ (lp_b h1) hP hD hS (lv_sub hl [2, 3, 0] rfl)
        have hL3 : ∀ (n : Nat) (z3 : Int32 × Int32 × Int32) (H : Heap) (locs : List Loc) (ls : Array Slot), lp (f_X2_deliver_b15 pr pu tc p0 z1.2.2) n z3 = some q3 → va_P G vwCl (wS cI cJ aS pr pu ta se qu z1.1 z1.2.1 tc sc rc cn so ++ ([] : va_W)) H → va_D A (wS cI cJ aS pr pu ta se qu z1.1 z1.2.1 tc sc rc cn so ++ ([] : va_W)) → va_S A s.heap H locs → lv_has ls 6 [(0, .ref (aS 0)), (1, .int p0), (2, .int z1.2.2), (3, .int z3.1), (4, .int z3.2.1), (5, .int z3.2.2)] → W p l ev ({ frames := 2, cells := 0, slots := 0, locals := 47 } : Room) s m ([.ref (aS 0), .int p0] : List Value).toArray below meth c H locs 0 0 (MQ below (qV G (ty5 cI cJ cZ cO cA) A (wS cI cJ aS pr pu ta se qu res.1 res.2 tc sc rc cn so ++ ([] : va_W))) ([.ref (aS 0), .int p0] : List Value).toArray s 0 0 A) (F0 m 15 ls []) := by
          intro n
          induction n with
          | zero => intro z3 H locs ls h; cases h
          | succ n ih3 =>
            intro z3 H locs ls h hP hD hS hl
            obtain ⟨o3, h, h3⟩ := lp_s h
            unfold f_X2_deliver_b15 at h
            refine lv_iload hx hb dX2_deliver_15 (lv_at hl 5 rfl) ?_
            refine lv_aload_n hx hb dX2_deliver_17 rfl (lv_at hl 0 rfl) ?_
            refine va_get (D := G) (ci := 2) (v := .int tc) (C := RX2) (T := TX2) (N := 12) hx hb hts uX2 hown hK hP 0 rfl rfl 7 (by decide) (hts _ kw42) (fun _ h9 => h9) rfl dX2_deliver_18 ?_
            refine lv_icmp_ge (tgt := 67) hx hb dX2_deliver_21 (by decide) (fun c4 => ?_) (fun c4 => ?_)
            · replace h := (if_pos c4).symm.trans h
              rw [← Option.some.inj h] at h3
              exact hX3_0 (z3.1, z3.2.1) _ _ _ (lp_x h3) hP hD hS (lv_sub hl [0, 1, 2, 3, 4] rfl)
            · replace h := (if_neg c4).symm.trans h
              refine lv_iload_n hx hb dX2_deliver_24 rfl (lv_at hl 3 rfl) ?_
              refine lv_aload_n hx hb dX2_deliver_25 rfl (lv_at hl 0 rfl) ?_
              refine va_get (D := G) (ci := 2) (v := .ref (aS 2)) (C := RX2) (T := TX2) (N := 12) hx hb hts uX2 hown hK hP 0 rfl rfl 1 (by decide) (hts _ kw29) (fun _ h9 => h9) rfl dX2_deliver_26 ?_
              refine lv_iload hx hb dX2_deliver_29 (lv_at hl 5 rfl) ?_
              obtain ⟨g5, h⟩ := gd_s h
              refine va_iald hx hb hK hP 2 0 rfl rfl (ib_in g5) dX2_deliver_31 ?_
              refine lv_aload_n hx hb dX2_deliver_32 rfl (lv_at hl 0 rfl) ?_
              refine lv_iload hx hb dX2_deliver_33 (lv_at hl 5 rfl) ?_
              refine lv_iload_n hx hb dX2_deliver_35 rfl (lv_at hl 2 rfl) ?_
              obtain ⟨q6, hq6, h⟩ := bd_s h
              refine kVi (n := 2) (C := RX2) (ws' := wS cI cJ aS pr pu ta se qu z1.1 z1.2.1 tc sc rc cn so ++ ([] : va_W)) (As := [.int z3.2.2, .int z1.2.2]) (rest := [.int (pu z3.2.2.toNatClampNeg), .int z3.1]) hx hb hml hown hts (c_X2_unitPart l G cI cJ cZ cO cA e aS _ pr pu ta se qu z1.1 z1.2.1 tc sc rc cn so z3.2.2 z1.2.2 hq6) (tb_V kw363 kw250 kw251 kw2 kw252) rfl rfl (by decide +kernel) ⟨Nat.le_of_ble_eq_true rfl, Nat.le_of_ble_eq_true rfl⟩ hK hP hD hS hA hE 0 rfl rfl [0, 1, 2, 3, 4, 5, 6, 7] [] rfl rfl rfl 8 ⟨rfl, rfl⟩ (by decide +kernel) (by decide +kernel) rfl rfl hl.1 (Nat.le_of_ble_eq_true rfl) ⟨Nat.zero_le _, Nat.zero_le _⟩ dX2_deliver_36 (fun H locs hP hD hS => ?_)
              refine lv_imul hx hb dX2_deliver_39 ?_
              refine lv_iadd hx hb dX2_deliver_40 ?_
              refine lv_istore_n (lv' := [(3, .int (z3.1 + ((pu z3.2.2.toNatClampNeg) * q6))), (0, .ref (aS 0)), (1, .int p0), (2, .int z1.2.2), (4, .int z3.2.1), (5, .int z3.2.2)]) hx hb dX2_deliver_41 rfl hl (by decide) rfl (fun ls hl => ?_)
              refine lv_iload hx hb dX2_deliver_42 (lv_at hl 4 rfl) ?_
              refine lv_iload_n hx hb dX2_deliver_44 rfl (lv_at hl 2 rfl) ?_
              refine lv_iload hx hb dX2_deliver_45 (lv_at hl 5 rfl) ?_
              obtain ⟨q7, hq7, h⟩ := bd_s h
              refine kSi (n := 2) (As := [.int p0, .int z3.2.2]) (rest := [.int z3.2.1]) hx hb hml hown hts (c_X2_ranTicks l G cI cJ cZ cO cA e _ p0 z3.2.2 hq7) (tb_S kw360 kw361 kw2 kw362) rfl rfl (by decide +kernel) ⟨Nat.le_of_ble_eq_true rfl, Nat.le_of_ble_eq_true rfl⟩ hK hP hD hS hA hE rfl rfl hl.1 (Nat.le_of_ble_eq_true rfl) ⟨Nat.zero_le _, Nat.zero_le _⟩ dX2_deliver_47 (fun H locs hP hD hS => ?_)
              refine lv_aload_n hx hb dX2_deliver_50 rfl (lv_at hl 1 rfl) ?_
              refine lv_iload hx hb dX2_deliver_51 (lv_at hl 5 rfl) ?_
              refine lv_iload_n hx hb dX2_deliver_53 rfl (lv_at hl 3 rfl) ?_
              obtain ⟨q8, hq8, h⟩ := bd_s h
              refine kVi (n := 2) (C := RX2) (ws' := wS cI cJ aS pr pu ta se qu z1.1 z1.2.1 tc sc rc cn so ++ ([] : va_W)) (As := [.int z3.2.2, .int z1.2.2]) (rest := [.int q7, .int z3.2.1]) hx hb hml hown hts (c_X2_unitPart l G cI cJ cZ cO cA e aS _ pr pu ta se qu z1.1 z1.2.1 tc sc rc cn so z3.2.2 z1.2.2 hq8) (tb_V kw363 kw250 kw251 kw2 kw252) rfl rfl (by decide +kernel) ⟨Nat.le_of_ble_eq_true rfl, Nat.le_of_ble_eq_true rfl⟩ hK hP hD hS hA hE 0 rfl rfl [0, 1, 2, 3, 4, 5, 6, 7] [] rfl rfl rfl 8 ⟨rfl, rfl⟩ (by decide +kernel) (by decide +kernel) rfl rfl hl.1 (Nat.le_of_ble_eq_true rfl) ⟨Nat.zero_le _, Nat.zero_le _⟩ dX2_deliver_54 (fun H locs hP hD hS => ?_)
              refine lv_imul hx hb dX2_deliver_57 ?_
              refine lv_iadd hx hb dX2_deliver_58 ?_
              refine lv_istore (lv' := [(4, .int (z3.2.1 + (q7 * q8))), (3, .int (z3.1 + ((pu z3.2.2.toNatClampNeg) * q6))), (0, .ref (aS 0)), (1, .int p0), (2, .int z1.2.2), (5, .int z3.2.2)]) hx hb dX2_deliver_59 hl (by decide) rfl (fun ls hl => ?_)
              refine lv_iinc (v := (z3.2.2 + 1)) (lv' := [(5, .int (z3.2.2 + 1)), (4, .int (z3.2.1 + (q7 * q8))), (3, .int (z3.1 + ((pu z3.2.2.toNatClampNeg) * q6))), (0, .ref (aS 0)), (1, .int p0), (2, .int z1.2.2)]) hx hb dX2_deliver_61 hl (k := 5) rfl rfl (by decide) rfl (fun ls hl => ?_)
              refine lv_goto (tgt := 15) hx hb dX2_deliver_64 (by decide) ?_
              rw [← Option.some.inj h] at h3
              exact ih3 ((z3.1 + ((pu z3.2.2.toNatClampNeg) * q6)), (z3.2.1 + (q7 * q8)), (z3.2.2 + 1)) _ _ _ (lp_b h3) hP hD hS (lv_sub hl [3, 4, 5, 2, 1, 0] rfl)
        exact hL3 _ (0, 0, 0) _ _ _ hq3 hP hD hS (lv_sub hl [3, 4, 5, 2, 1, 0] rfl)
  exact hL1 _ (im, su, 0) _ _ _ hq1 hP hD hS (lv_sub hl [1, 2, 0] rfl)

/-! X2_burn -/
def f_X2_burn_b2 (pr : Nat → Int32) (pu : Nat → Int32) (tc : Int32) (v1 : Int32) (z1 : (Nat → Int32) × Int32) : Option (((Nat → Int32) × Int32) ⊕ ((Nat → Int32))) :=
  if tc ≤ z1.2 then (some (Sum.inr z1.1)) else (gd (ib z1.2 8) ((f_X2_ranTicks v1 z1.2).bind (fun q4 => (f_X2_property pr z1.2 3).bind (fun q5 => (f_X2_property pr z1.2 4).bind (fun q6 => (f_X2_fuelOf pr z1.1 z1.2).bind (fun q7 => gd (ib q6 2) (some (Sum.inl ((upd z1.1 q6.toNatClampNeg (if 0 < (q7 - (((pu z1.2.toNatClampNeg) + q4) * q5)) then (q7 - (((pu z1.2.toNatClampNeg) + q4) * q5)) else 0)), (z1.2 + 1))))))))))
def f_X2_burn (pr : Nat → Int32) (pu : Nat → Int32) (tc : Int32) (ta : Nat → Int32) (p0 : Int32) : Option ((Nat → Int32)) :=
  (lp (f_X2_burn_b2 pr pu tc p0) 1000 (ta, 0)).bind (fun q1 => some q1)

set_option maxHeartbeats 4000000 in
set_option maxRecDepth 100000 in
theorem c_X2_burn (l : Launch) (G : va_G) (cI cJ cZ cO cA : ClassId) (e : Nat × Nat) (aS : Nat → Nat) (sz : Nat) (pr : Nat → Int32) (pu : Nat → Int32) (ta : Nat → Int32) (se : Nat → Int32) (qu : Nat → Int32) (im : Nat → Int32) (su : Nat → Int64) (tc : Int32) (sc : Int32) (rc : Int32) (cn : Int32) (so : Int32) (p0 : Int32) {res : (Nat → Int32)} (hf : f_X2_burn pr pu tc ta p0 = some res) : MetV l yX2_burn cX2_burn 4 ({ frames := 2, cells := 0, slots := 0, locals := 43 } : Room) [.ref (aS 0), .int p0] G (ty5 cI cJ cZ cO cA) e (wS cI cJ aS pr pu ta se qu im su tc sc rc cn so ++ ([] : va_W)) (wS cI cJ aS pr pu res se qu im su tc sc rc cn so ++ ([] : va_W)) sz := by
  refine g_body (QQ := fun A => (qV G (ty5 cI cJ cZ cO cA) A (wS cI cJ aS pr pu res se qu im su tc sc rc cn so ++ ([] : va_W)))) (own := RX2) (by decide) rfl (Nat.le_of_ble_eq_true rfl) ?_
  intro p ev s m below meth c A ls hx hb hr hml hown hts hlk hA hP hD hS hK hE hl
  have hl : lv_has ls 4 [(0, .ref (aS 0)), (1, .int p0)] := hl
  show W p l ev ({ frames := 2, cells := 0, slots := 0, locals := 43 } : Room) s m ([.ref (aS 0), .int p0] : List Value).toArray below meth c s.heap [] 0 0 (MQ below (qV G (ty5 cI cJ cZ cO cA) A (wS cI cJ aS pr pu res se qu im su tc sc rc cn so ++ ([] : va_W))) ([.ref (aS 0), .int p0] : List Value).toArray s 0 0 A) (F0 m 0 ls [])
  have h := hf
  unfold f_X2_burn at h
  refine lv_iconst (v := 0) hx hb dX2_burn_0 (by decide) ?_
  refine lv_istore_n (lv' := [(2, .int 0), (0, .ref (aS 0)), (1, .int p0)]) hx hb dX2_burn_1 rfl hl (by decide) rfl (fun ls hl => ?_)
  obtain ⟨q1, hq1, h⟩ := bd_s h
  have hX1_0 : ∀ (x1 : (Nat → Int32)) (H : Heap) (locs : List Loc) (ls : Array Slot), x1 = q1 → va_P G vwCl (wS cI cJ aS pr pu x1 se qu im su tc sc rc cn so ++ ([] : va_W)) H → va_D A (wS cI cJ aS pr pu x1 se qu im su tc sc rc cn so ++ ([] : va_W)) → va_S A s.heap H locs → lv_has ls 4 [] → W p l ev ({ frames := 2, cells := 0, slots := 0, locals := 43 } : Room) s m ([.ref (aS 0), .int p0] : List Value).toArray below meth c H locs 0 0 (MQ below (qV G (ty5 cI cJ cZ cO cA) A (wS cI cJ aS pr pu res se qu im su tc sc rc cn so ++ ([] : va_W))) ([.ref (aS 0), .int p0] : List Value).toArray s 0 0 A) (F0 m 58 ls []) := by
    intro x1 H locs ls e1 hP hD hS hl
    replace e1 := e1.symm
    subst e1
    rw [← Option.some.inj h]
    exact krv hx hb hr hlk hP hD hS hK dX2_burn_58
  have hL1 : ∀ (n : Nat) (z1 : (Nat → Int32) × Int32) (H : Heap) (locs : List Loc) (ls : Array Slot), lp (f_X2_burn_b2 pr pu tc p0) n z1 = some q1 → va_P G vwCl (wS cI cJ aS pr pu z1.1 se qu im su tc sc rc cn so ++ ([] : va_W)) H → va_D A (wS cI cJ aS pr pu z1.1 se qu im su tc sc rc cn so ++ ([] : va_W)) → va_S A s.heap H locs → lv_has ls 4 [(0, .ref (aS 0)), (1, .int p0), (2, .int z1.2)] → W p l ev ({ frames := 2, cells := 0, slots := 0, locals := 43 } : Room) s m ([.ref (aS 0), .int p0] : List Value).toArray below meth c H locs 0 0 (MQ below (qV G (ty5 cI cJ cZ cO cA) A (wS cI cJ aS pr pu res se qu im su tc sc rc cn so ++ ([] : va_W))) ([.ref (aS 0), .int p0] : List Value).toArray s 0 0 A) (F0 m 2 ls []) := by
    intro n
    induction n with
    | zero => intro z1 H locs ls h; cases h
    | succ n ih1 =>
      intro z1 H locs ls h hP hD hS hl
      obtain ⟨o1, h, h1⟩ := lp_s h
      unfold f_X2_burn_b2 at h
      refine lv_iload_n hx hb dX2_burn_2 rfl (lv_at hl 2 rfl) ?_
      refine lv_aload_n hx hb dX2_burn_3 rfl (lv_at hl 0 rfl) ?_
      refine va_get (D := G) (ci := 2) (v := .int tc) (C := RX2) (T := TX2) (N := 12) hx hb hts uX2 hown hK hP 0 rfl rfl 7 (by decide) (hts _ kw42) (fun _ h9 => h9) rfl dX2_burn_4 ?_
      refine lv_icmp_ge (tgt := 58) hx hb dX2_burn_7 (by decide) (fun c2 => ?_) (fun c2 => ?_)
      · replace h := (if_pos c2).symm.trans h
        rw [← Option.some.inj h] at h1
        exact hX1_0 z1.1 _ _ _ (lp_x h1) hP hD hS (lv_sub hl [] rfl)
      · replace h := (if_neg c2).symm.trans h
        refine lv_aload_n hx hb dX2_burn_10 rfl (lv_at hl 0 rfl) ?_
        refine va_get (D := G) (ci := 2) (v := .ref (aS 2)) (C := RX2) (T := TX2) (N := 12) hx hb hts uX2 hown hK hP 0 rfl rfl 1 (by decide) (hts _ kw29) (fun _ h9 => h9) rfl dX2_burn_11 ?_
        refine lv_iload_n hx hb dX2_burn_14 rfl (lv_at hl 2 rfl) ?_
        obtain ⟨g3, h⟩ := gd_s h
        refine va_iald hx hb hK hP 2 0 rfl rfl (ib_in g3) dX2_burn_15 ?_
        refine lv_iload_n hx hb dX2_burn_16 rfl (lv_at hl 1 rfl) ?_
        refine lv_iload_n hx hb dX2_burn_17 rfl (lv_at hl 2 rfl) ?_
        obtain ⟨q4, hq4, h⟩ := bd_s h
        refine kSi (n := 2) (As := [.int p0, .int z1.2]) (rest := [.int (pu z1.2.toNatClampNeg)]) hx hb hml hown hts (c_X2_ranTicks l G cI cJ cZ cO cA e _ p0 z1.2 hq4) (tb_S kw360 kw361 kw2 kw362) rfl rfl (by decide +kernel) ⟨Nat.le_of_ble_eq_true rfl, Nat.le_of_ble_eq_true rfl⟩ hK hP hD hS hA hE rfl rfl hl.1 (Nat.le_of_ble_eq_true rfl) ⟨Nat.zero_le _, Nat.zero_le _⟩ dX2_burn_18 (fun H locs hP hD hS => ?_)
        refine lv_iadd hx hb dX2_burn_21 ?_
        refine lv_aload_n hx hb dX2_burn_22 rfl (lv_at hl 0 rfl) ?_
        refine lv_iload_n hx hb dX2_burn_23 rfl (lv_at hl 2 rfl) ?_
        refine lv_iconst (v := 3) hx hb dX2_burn_24 (by decide) ?_
        obtain ⟨q5, hq5, h⟩ := bd_s h
        refine kVi (n := 2) (C := RX2) (ws' := wS cI cJ aS pr pu z1.1 se qu im su tc sc rc cn so ++ ([] : va_W)) (As := [.int z1.2, .int 3]) (rest := [.int ((pu z1.2.toNatClampNeg) + q4)]) hx hb hml hown hts (c_X2_property l G cI cJ cZ cO cA e aS _ pr pu z1.1 se qu im su tc sc rc cn so z1.2 3 hq5) (tb_V kw237 kw238 kw239 kw2 kw240) rfl rfl (by decide +kernel) ⟨Nat.le_of_ble_eq_true rfl, Nat.le_of_ble_eq_true rfl⟩ hK hP hD hS hA hE 0 rfl rfl [0, 1, 2, 3, 4, 5, 6, 7] [] rfl rfl rfl 8 ⟨rfl, rfl⟩ (by decide +kernel) (by decide +kernel) rfl rfl hl.1 (Nat.le_of_ble_eq_true rfl) ⟨Nat.zero_le _, Nat.zero_le _⟩ dX2_burn_25 (fun H locs hP hD hS => ?_)
        refine lv_imul hx hb dX2_burn_28 ?_
        refine lv_istore_n (lv' := [(3, .int (((pu z1.2.toNatClampNeg) + q4) * q5)), (0, .ref (aS 0)), (1, .int p0), (2, .int z1.2)]) hx hb dX2_burn_29 rfl hl (by decide) rfl (fun ls hl => ?_)
        refine lv_aload_n hx hb dX2_burn_30 rfl (lv_at hl 1 rfl) ?_
        refine va_get (D := G) (ci := 2) (v := .ref (aS 3)) (C := RX2) (T := TX2) (N := 12) hx hb hts uX2 hown hK hP 0 rfl rfl 2 (by decide) (hts _ kw31) (fun _ h9 => h9) rfl dX2_burn_31 ?_
        refine lv_aload_n hx hb dX2_burn_34 rfl (lv_at hl 1 rfl) ?_
        refine lv_iload_n hx hb dX2_burn_35 rfl (lv_at hl 3 rfl) ?_
        refine lv_iconst (v := 4) hx hb dX2_burn_36 (by decide) ?_
        obtain ⟨q6, hq6, h⟩ := bd_s h
        refine kVi (n := 2) (C := RX2) (ws' := wS cI cJ aS pr pu z1.1 se qu im su tc sc rc cn so ++ ([] : va_W)) (As := [.int z1.2, .int 4]) (rest := [.ref (aS 3)]) hx hb hml hown hts (c_X2_property l G cI cJ cZ cO cA e aS _ pr pu z1.1 se qu im su tc sc rc cn so z1.2 4 hq6) (tb_V kw237 kw238 kw239 kw2 kw240) rfl rfl (by decide +kernel) ⟨Nat.le_of_ble_eq_true rfl, Nat.le_of_ble_eq_true rfl⟩ hK hP hD hS hA hE 0 rfl rfl [0, 1, 2, 3, 4, 5, 6, 7] [] rfl rfl rfl 8 ⟨rfl, rfl⟩ (by decide +kernel) (by decide +kernel) rfl rfl hl.1 (Nat.le_of_ble_eq_true rfl) ⟨Nat.zero_le _, Nat.zero_le _⟩ dX2_burn_37 (fun H locs hP hD hS => ?_)
        refine lv_iconst (v := 0) hx hb dX2_burn_40 (by decide) ?_
        refine lv_aload_n hx hb dX2_burn_41 rfl (lv_at hl 1 rfl) ?_
        refine lv_iload_n hx hb dX2_burn_42 rfl (lv_at hl 3 rfl) ?_
        obtain ⟨q7, hq7, h⟩ := bd_s h
        refine kVi (n := 1) (C := RX2) (ws' := wS cI cJ aS pr pu z1.1 se qu im su tc sc rc cn so ++ ([] : va_W)) (As := [.int z1.2]) (rest := [.int 0, .int q6, .ref (aS 3)]) hx hb hml hown hts (c_X2_fuelOf l G cI cJ cZ cO cA e aS _ pr pu z1.1 se qu im su tc sc rc cn so z1.2 hq7) (tb_V kw241 kw242 kw243 kw2 kw244) rfl rfl (by decide +kernel) ⟨Nat.le_of_ble_eq_true rfl, Nat.le_of_ble_eq_true rfl⟩ hK hP hD hS hA hE 0 rfl rfl [0, 1, 2, 3, 4, 5, 6, 7] [] rfl rfl rfl 8 ⟨rfl, rfl⟩ (by decide +kernel) (by decide +kernel) rfl rfl hl.1 (Nat.le_of_ble_eq_true rfl) ⟨Nat.zero_le _, Nat.zero_le _⟩ dX2_burn_43 (fun H locs hP hD hS => ?_)
        refine lv_iload_n hx hb dX2_burn_46 rfl (lv_at hl 0 rfl) ?_
        refine lv_isub hx hb dX2_burn_47 ?_
        refine va_mmax hx hb (hml.trans hl.1.symm) hown (hts _ kw381) (hts _ kw382) (hts _ kw8) (hts _ kw383) (Nat.le_of_ble_eq_true rfl) (Nat.le_of_ble_eq_true rfl) (Nat.zero_le _) (Nat.zero_le _) dX2_burn_48 ?_
        obtain ⟨g8, h⟩ := gd_s h
        refine va_iast hx hb hK hP hD hS 3 0 rfl rfl (ib_in g8) dX2_burn_51 (fun H locs hP hD hS => ?_)
        have hP : va_P G vwCl (wS cI cJ aS pr pu (upd z1.1 q6.toNatClampNeg (if 0 < (q7 - (((pu z1.2.toNatClampNeg) + q4) * q5)) then (q7 - (((pu z1.2.toNatClampNeg) + q4) * q5)) else 0)) se qu im su tc sc rc cn so ++ ([] : va_W)) H := hP
        have hD : va_D A (wS cI cJ aS pr pu (upd z1.1 q6.toNatClampNeg (if 0 < (q7 - (((pu z1.2.toNatClampNeg) + q4) * q5)) then (q7 - (((pu z1.2.toNatClampNeg) + q4) * q5)) else 0)) se qu im su tc sc rc cn so ++ ([] : va_W)) := hD
        refine lv_iinc (v := (z1.2 + 1)) (lv' := [(2, .int (z1.2 + 1)), (3, .int (((pu z1.2.toNatClampNeg) + q4) * q5)), (0, .ref (aS 0)), (1, .int p0)]) hx hb dX2_burn_52 hl (k := 3) rfl rfl (by decide) rfl (fun ls hl => ?_)
        refine lv_goto (tgt := 2) hx hb dX2_burn_55 (by decide) ?_
        rw [← Option.some.inj h] at h1
        exact ih1 ((upd z1.1 q6.toNatClampNeg (if 0 < (q7 - (((pu z1.2.toNatClampNeg) + q4) * q5)) then (q7 - (((pu z1.2.toNatClampNeg) + q4) * q5)) else 0)), (z1.2 + 1)) _ _ _ (lp_b h1) hP hD hS (lv_sub hl [2, 3, 0] rfl)
  exact hL1 _ (ta, 0) _ _ _ hq1 hP hD hS (lv_sub hl [1, 2, 0] rfl)

/-! X4_runCycle -/
def f_X4_runCycle (pr : Nat → Int32) (se : Nat → Int32) (tc : Int32) (sc : Int32) (un : Nat → Nat → Int32) (tp : Nat → Int32) (sh : Nat → Int64) (de : Int64) (co : Int64) (ma : Int32) (ru : Int32) (fo : Int32) (pu : Nat → Int32) (ta : Nat → Int32) (qu : Nat → Int32) (im : Nat → Int32) (su : Nat → Int64) (rc : Int32) (cn : Int32) (so : Int32) : Option (Int32 × (Nat → Nat → Int32) × (Nat → Int32) × (Nat → Int64) × Int64 × Int64 × Int32 × Int32 × Int32 × (Nat → Int32) × (Nat → Int32) × (Nat → Int32) × (Nat → Int32) × (Nat → Int64) × Int32 × Int32 × Int32) :=
  (f_X2_runningMask pr ta tc).bind (fun q1 => (f_X2_takeTarget pr tc qu im rc q1).bind (fun q2 => (f_X2_impulsePart q2.2.1 2 0).bind (fun q3 => (f_X2_impulsePart q2.2.1 2 1).bind (fun q4 => (f_X2_impulsePart q2.2.1 2 2).bind (fun q5 => (f_X1_find pr ta se tc sc un tp sh de co ma ru fo q3 q4 q5).bind (fun q6 => (f_X2_setPulses q6.2.2.1 q6.2.2.2.1 pr tc pu so).bind (fun q7 => (f_X2_deliver pr q7.2.1 tc q2.2.1 su q1).bind (fun q8 => (f_X2_burn pr q7.2.1 tc ta q1).bind (fun q9 => if q6.2.2.2.2.2.2.2 = 0 then (some ((-2000000000), q6.1, q6.2.1, q6.2.2.1, q6.2.2.2.1, q6.2.2.2.2.1, q6.2.2.2.2.2.1, q6.2.2.2.2.2.2.1, q6.2.2.2.2.2.2.2, q7.2.1, q9, q2.1, q8.1, q8.2, q2.2.2, (cn + 1), q7.2.2)) else (some (q7.1, q6.1, q6.2.1, q6.2.2.1, q6.2.2.2.1, q6.2.2.2.2.1, q6.2.2.2.2.2.1, q6.2.2.2.2.2.2.1, q6.2.2.2.2.2.2.2, q7.2.1, q9, q2.1, q8.1, q8.2, q2.2.2, (cn + 1), q7.2.2)))))))))))

set_option maxHeartbeats 4000000 in
set_option maxRecDepth 100000 in
theorem c_X4_runCycle (l : Launch) (G : va_G) (cI cJ cZ cO cA : ClassId) (e : Nat × Nat) (aE : Nat → Nat) (aR : Nat → Nat) (aT : Nat) (aS : Nat → Nat) (aH : Nat → Nat) (aX : Nat → Nat) (sz : Nat) (un : Nat → Nat → Int32) (tp : Nat → Int32) (sh : Nat → Int64) (de : Int64) (co : Int64) (ma : Int32) (ru : Int32) (fo : Int32) (pr : Nat → Int32) (pu : Nat → Int32) (ta : Nat → Int32) (se : Nat → Int32) (qu : Nat → Int32) (im : Nat → Int32) (su : Nat → Int64) (tc : Int32) (sc : Int32) (rc : Int32) (cn : Int32) (so : Int32) {res : Int32 × (Nat → Nat → Int32) × (Nat → Int32) × (Nat → Int64) × Int64 × Int64 × Int32 × Int32 × Int32 × (Nat → Int32) × (Nat → Int32) × (Nat → Int32) × (Nat → Int32) × (Nat → Int64) × Int32 × Int32 × Int32} (hf : f_X4_runCycle pr se tc sc un tp sh de co ma ru fo pu ta qu im su rc cn so = some res) : MetI l yX4_runCycle cX4_runCycle 3 .int ({ frames := 6, cells := 0, slots := 0, locals := 136 } : Room) [.ref aT] G (ty5 cI cJ cZ cO cA) e (wE cI cJ cA aE aR un tp sh de co ma ru fo ++ (wT aT (aS 0) (aH 0) (aE 0) (aX 0) ++ (wS cI cJ aS pr pu ta se qu im su tc sc rc cn so ++ ([] : va_W)))) (wE cI cJ cA aE aR res.2.1 res.2.2.1 res.2.2.2.1 res.2.2.2.2.1 res.2.2.2.2.2.1 res.2.2.2.2.2.2.1 res.2.2.2.2.2.2.2.1 res.2.2.2.2.2.2.2.2.1 ++ (wT aT (aS 0) (aH 0) (aE 0) (aX 0) ++ (wS cI cJ aS pr res.2.2.2.2.2.2.2.2.2.1 res.2.2.2.2.2.2.2.2.2.2.1 se res.2.2.2.2.2.2.2.2.2.2.2.1 res.2.2.2.2.2.2.2.2.2.2.2.2.1 res.2.2.2.2.2.2.2.2.2.2.2.2.2.1 tc sc res.2.2.2.2.2.2.2.2.2.2.2.2.2.2.1 res.2.2.2.2.2.2.2.2.2.2.2.2.2.2.2.1 res.2.2.2.2.2.2.2.2.2.2.2.2.2.2.2.2 ++ ([] : va_W)))) sz res.1 := by
  refine g_body (QQ := fun A => (qI G (ty5 cI cJ cZ cO cA) A (wE cI cJ cA aE aR res.2.1 res.2.2.1 res.2.2.2.1 res.2.2.2.2.1 res.2.2.2.2.2.1 res.2.2.2.2.2.2.1 res.2.2.2.2.2.2.2.1 res.2.2.2.2.2.2.2.2.1 ++ (wT aT (aS 0) (aH 0) (aE 0) (aX 0) ++ (wS cI cJ aS pr res.2.2.2.2.2.2.2.2.2.1 res.2.2.2.2.2.2.2.2.2.2.1 se res.2.2.2.2.2.2.2.2.2.2.2.1 res.2.2.2.2.2.2.2.2.2.2.2.2.1 res.2.2.2.2.2.2.2.2.2.2.2.2.2.1 tc sc res.2.2.2.2.2.2.2.2.2.2.2.2.2.2.1 res.2.2.2.2.2.2.2.2.2.2.2.2.2.2.2.1 res.2.2.2.2.2.2.2.2.2.2.2.2.2.2.2.2 ++ ([] : va_W)))) res.1)) (own := RX4) (by decide) rfl (Nat.le_of_ble_eq_true rfl) ?_
  intro p ev s m below meth c A ls hx hb hr hml hown hts hlk hA hP hD hS hK hE hl
  have hl : lv_has ls 3 [(0, .ref aT)] := hl
  show W p l ev ({ frames := 6, cells := 0, slots := 0, locals := 136 } : Room) s m ([.ref aT] : List Value).toArray below meth c s.heap [] 0 0 (MQ below (qI G (ty5 cI cJ cZ cO cA) A (wE cI cJ cA aE aR res.2.1 res.2.2.1 res.2.2.2.1 res.2.2.2.2.1 res.2.2.2.2.2.1 res.2.2.2.2.2.2.1 res.2.2.2.2.2.2.2.1 res.2.2.2.2.2.2.2.2.1 ++ (wT aT (aS 0) (aH 0) (aE 0) (aX 0) ++ (wS cI cJ aS pr res.2.2.2.2.2.2.2.2.2.1 res.2.2.2.2.2.2.2.2.2.2.1 se res.2.2.2.2.2.2.2.2.2.2.2.1 res.2.2.2.2.2.2.2.2.2.2.2.2.1 res.2.2.2.2.2.2.2.2.2.2.2.2.2.1 tc sc res.2.2.2.2.2.2.2.2.2.2.2.2.2.2.1 res.2.2.2.2.2.2.2.2.2.2.2.2.2.2.2.1 res.2.2.2.2.2.2.2.2.2.2.2.2.2.2.2.2 ++ ([] : va_W)))) res.1) ([.ref aT] : List Value).toArray s 0 0 A) (F0 m 0 ls [])
  have h := hf
  unfold f_X4_runCycle at h
  refine lv_aload_n hx hb dX4_runCycle_0 rfl (lv_at hl 0 rfl) ?_
  refine va_get (D := G) (ci := 4) (v := .ref (aS 0)) (C := RX4) (T := TX4) (N := 4) hx hb hts uX4 hown hK hP 13 rfl rfl 0 (by decide) (hts _ kw165) (fun _ h9 => h9) rfl dX4_runCycle_1 ?_
  obtain ⟨q1, hq1, h⟩ := bd_s h
  refine kVi (n := 0) (C := RX2) (ws' := wE cI cJ cA aE aR un tp sh de co ma ru fo ++ (wT aT (aS 0) (aH 0) (aE 0) (aX 0) ++ (wS cI cJ aS pr pu ta se qu im su tc sc rc cn so ++ ([] : va_W)))) (As := []) (rest := []) hx hb hml hown hts (c_X2_runningMask l G cI cJ cZ cO cA e aS _ pr pu ta se qu im su tc sc rc cn so hq1) (tb_V kw284 kw230 kw231 kw2 kw232) rfl rfl (by decide +kernel) ⟨Nat.le_of_ble_eq_true rfl, Nat.le_of_ble_eq_true rfl⟩ hK hP hD hS hA hE 14 rfl rfl [14, 15, 16, 17, 18, 19, 20, 21] [0, 1, 2, 3, 4, 5, 6, 7, 8, 9, 10, 11, 12, 13] rfl rfl rfl 22 ⟨rfl, rfl⟩ (by decide +kernel) (by decide +kernel) rfl rfl hl.1 (Nat.le_of_ble_eq_true rfl) ⟨Nat.zero_le _, Nat.zero_le _⟩ dX4_runCycle_4 (fun H locs hP hD hS => ?_)
  refine lv_istore_n (lv' := [(1, .int q1), (0, .ref aT)]) hx hb dX4_runCycle_7 rfl hl (by decide) rfl (fun ls hl => ?_)
  refine lv_aload_n hx hb dX4_runCycle_8 rfl (lv_at hl 1 rfl) ?_
  refine va_get (D := G) (ci := 4) (v := .ref (aS 0)) (C := RX4) (T := TX4) (N := 4) hx hb hts uX4 hown hK hP 13 rfl rfl 0 (by decide) (hts _ kw165) (fun _ h9 => h9) rfl dX4_runCycle_9 ?_
  refine lv_iload_n hx hb dX4_runCycle_12 rfl (lv_at hl 0 rfl) ?_
  obtain ⟨q2, hq2, h⟩ := bd_s h
  refine kVv (n := 1) (C := RX2) (ws' := wE cI cJ cA aE aR un tp sh de co ma ru fo ++ (wT aT (aS 0) (aH 0) (aE 0) (aX 0) ++ (wS cI cJ aS pr pu ta se q2.1 q2.2.1 su tc sc q2.2.2 cn so ++ ([] : va_W)))) (As := [.int q1]) (rest := []) hx hb hml hown hts (c_X2_takeTarget l G cI cJ cZ cO cA e aS _ pr pu ta se qu im su tc sc rc cn so q1 hq2) (tb_V kw352 kw353 kw354 kw2 kw355) rfl rfl (by decide +kernel) ⟨Nat.le_of_ble_eq_true rfl, Nat.le_of_ble_eq_true rfl⟩ hK hP hD hS hA hE 14 rfl rfl [14, 15, 16, 17, 18, 19, 20, 21] [0, 1, 2, 3, 4, 5, 6, 7, 8, 9, 10, 11, 12, 13] rfl rfl rfl 22 ⟨rfl, rfl⟩ (by decide +kernel) (by decide +kernel) rfl rfl hl.1 (Nat.le_of_ble_eq_true rfl) ⟨Nat.zero_le _, Nat.zero_le _⟩ dX4_runCycle_13 (fun H locs hP hD hS => ?_)
  refine lv_aload_n hx hb dX4_runCycle_16 rfl (lv_at hl 1 rfl) ?_
  refine va_get (D := G) (ci := 4) (v := .ref (aE 0)) (C := RX4) (T := TX4) (N := 4) hx hb hts uX4 hown hK hP 13 rfl rfl 2 (by decide) (hts _ kw167) (fun _ h9 => h9) rfl dX4_runCycle_17 ?_
  refine lv_aload_n hx hb dX4_runCycle_20 rfl (lv_at hl 1 rfl) ?_
  refine va_get (D := G) (ci := 4) (v := .ref (aS 0)) (C := RX4) (T := TX4) (N := 4) hx hb hts uX4 hown hK hP 13 rfl rfl 0 (by decide) (hts _ kw165) (fun _ h9 => h9) rfl dX4_runCycle_21 ?_
  refine lv_aload_n hx hb dX4_runCycle_24 rfl (lv_at hl 1 rfl) ?_
  refine va_get (D := G) (ci := 4) (v := .ref (aS 0)) (C := RX4) (T := TX4) (N := 4) hx hb hts uX4 hown hK hP 13 rfl rfl 0 (by decide) (hts _ kw165) (fun _ h9 => h9) rfl dX4_runCycle_25 ?_
  refine lv_iconst (v := 2) hx hb dX4_runCycle_28 (by decide) ?_
  refine lv_iconst (v := 0) hx hb dX4_runCycle_29 (by decide) ?_
  obtain ⟨q3, hq3, h⟩ := bd_s h
  refine kVi (n := 2) (C := RX2) (ws' := wE cI cJ cA aE aR un tp sh de co ma ru fo ++ (wT aT (aS 0) (aH 0) (aE 0) (aX 0) ++ (wS cI cJ aS pr pu ta se q2.1 q2.2.1 su tc sc q2.2.2 cn so ++ ([] : va_W)))) (As := [.int 2, .int 0]) (rest := [.ref (aS 0), .ref (aE 0)]) hx hb hml hown hts (c_X2_impulsePart l G cI cJ cZ cO cA e aS _ pr pu ta se q2.1 q2.2.1 su tc sc q2.2.2 cn so 2 0 hq3) (tb_V kw368 kw357 kw358 kw2 kw359) rfl rfl (by decide +kernel) ⟨Nat.le_of_ble_eq_true rfl, Nat.le_of_ble_eq_true rfl⟩ hK hP hD hS hA hE 14 rfl rfl [14, 15, 16, 17, 18, 19, 20, 21] [0, 1, 2, 3, 4, 5, 6, 7, 8, 9, 10, 11, 12, 13] rfl rfl rfl 22 ⟨rfl, rfl⟩ (by decide +kernel) (by decide +kernel) rfl rfl hl.1 (Nat.le_of_ble_eq_true rfl) ⟨Nat.zero_le _, Nat.zero_le _⟩ dX4_runCycle_30 (fun H locs hP hD hS => ?_)
  refine lv_aload_n hx hb dX4_runCycle_33 rfl (lv_at hl 1 rfl) ?_
  refine va_get (D := G) (ci := 4) (v := .ref (aS 0)) (C := RX4) (T := TX4) (N := 4) hx hb hts uX4 hown hK hP 13 rfl rfl 0 (by decide) (hts _ kw165) (fun _ h9 => h9) rfl dX4_runCycle_34 ?_
  refine lv_iconst (v := 2) hx hb dX4_runCycle_37 (by decide) ?_
  refine lv_iconst (v := 1) hx hb dX4_runCycle_38 (by decide) ?_
  obtain ⟨q4, hq4, h⟩ := bd_s h
  refine kVi (n := 2) (C := RX2) (ws' := wE cI cJ cA aE aR un tp sh de co ma ru fo ++ (wT aT (aS 0) (aH 0) (aE 0) (aX 0) ++ (wS cI cJ aS pr pu ta se q2.1 q2.2.1 su tc sc q2.2.2 cn so ++ ([] : va_W)))) (As := [.int 2, .int 1]) (rest := [.int q3, .ref (aS 0), .ref (aE 0)]) hx hb hml hown hts (c_X2_impulsePart l G cI cJ cZ cO cA e aS _ pr pu ta se q2.1 q2.2.1 su tc sc q2.2.2 cn so 2 1 hq4) (tb_V kw368 kw357 kw358 kw2 kw359) rfl rfl (by decide +kernel) ⟨Nat.le_of_ble_eq_true rfl, Nat.le_of_ble_eq_true rfl⟩ hK hP hD hS hA hE 14 rfl rfl [14, 15, 16, 17, 18, 19, 20, 21] [0, 1, 2, 3, 4, 5, 6, 7, 8, 9, 10, 11, 12, 13] rfl rfl rfl 22 ⟨rfl, rfl⟩ (by decide +kernel) (by decide +kernel) rfl rfl hl.1 (Nat.le_of_ble_eq_true rfl) ⟨Nat.zero_le _, Nat.zero_le _⟩ dX4_runCycle_39 (fun H locs hP hD hS => ?_)
  refine lv_aload_n hx hb dX4_runCycle_42 rfl (lv_at hl 1 rfl) ?_
  refine va_get (D := G) (ci := 4) (v := .ref (aS 0)) (C := RX4) (T := TX4) (N := 4) hx hb hts uX4 hown hK hP 13 rfl rfl 0 (by decide) (hts _ kw165) (fun _ h9 => h9) rfl dX4_runCycle_43 ?_
  refine lv_iconst (v := 2) hx hb dX4_runCycle_46 (by decide) ?_
  refine lv_iconst (v := 2) hx hb dX4_runCycle_47 (by decide) ?_
  obtain ⟨q5, hq5, h⟩ := bd_s h
  refine kVi (n := 2) (C := RX2) (ws' := wE cI cJ cA aE aR un tp sh de co ma ru fo ++ (wT aT (aS 0) (aH 0) (aE 0) (aX 0) ++ (wS cI cJ aS pr pu ta se q2.1 q2.2.1 su tc sc q2.2.2 cn so ++ ([] : va_W)))) (As := [.int 2, .int 2]) (rest := [.int q4, .int q3, .ref (aS 0), .ref (aE 0)]) hx hb hml hown hts (c_X2_impulsePart l G cI cJ cZ cO cA e aS _ pr pu ta se q2.1 q2.2.1 su tc sc q2.2.2 cn so 2 2 hq5) (tb_V kw368 kw357 kw358 kw2 kw359) rfl rfl (by decide +kernel) ⟨Nat.le_of_ble_eq_true rfl, Nat.le_of_ble_eq_true rfl⟩ hK hP hD hS hA hE 14 rfl rfl [14, 15, 16, 17, 18, 19, 20, 21] [0, 1, 2, 3, 4, 5, 6, 7, 8, 9, 10, 11, 12, 13] rfl rfl rfl 22 ⟨rfl, rfl⟩ (by decide +kernel) (by decide +kernel) rfl rfl hl.1 (Nat.le_of_ble_eq_true rfl) ⟨Nat.zero_le _, Nat.zero_le _⟩ dX4_runCycle_48 (fun H locs hP hD hS => ?_)
  obtain ⟨q6, hq6, h⟩ := bd_s h
  refine kVv (n := 4) (C := RX1) (ws' := wE cI cJ cA aE aR q6.1 q6.2.1 q6.2.2.1 q6.2.2.2.1 q6.2.2.2.2.1 q6.2.2.2.2.2.1 q6.2.2.2.2.2.2.1 q6.2.2.2.2.2.2.2 ++ (wT aT (aS 0) (aH 0) (aE 0) (aX 0) ++ (wS cI cJ aS pr pu ta se q2.1 q2.2.1 su tc sc q2.2.2 cn so ++ ([] : va_W)))) (As := [.ref (aS 0), .int q3, .int q4, .int q5]) (rest := []) hx hb hml hown hts (c_X1_find l G cI cJ cZ cO cA e aE aR aS _ un tp sh de co ma ru fo pr pu ta se q2.1 q2.2.1 su tc sc q2.2.2 cn so q3 q4 q5 hq6) (tb_V kw300 kw301 kw302 kw5 kw303) rfl rfl (by decide +kernel) ⟨Nat.le_of_ble_eq_true rfl, Nat.le_of_ble_eq_true rfl⟩ hK hP hD hS hA hE 0 rfl rfl [0, 1, 2, 3, 4, 5, 6, 7, 8, 9, 10, 11, 12, 14, 15, 16, 17, 18, 19, 20, 21] [13] rfl rfl rfl 22 ⟨rfl, rfl⟩ (by decide +kernel) (by decide +kernel) rfl rfl hl.1 (Nat.le_of_ble_eq_true rfl) ⟨Nat.zero_le _, Nat.zero_le _⟩ dX4_runCycle_51 (fun H locs hP hD hS => ?_)
  refine lv_aload_n hx hb dX4_runCycle_54 rfl (lv_at hl 1 rfl) ?_
  refine va_get (D := G) (ci := 4) (v := .ref (aS 0)) (C := RX4) (T := TX4) (N := 4) hx hb hts uX4 hown hK hP 13 rfl rfl 0 (by decide) (hts _ kw165) (fun _ h9 => h9) rfl dX4_runCycle_55 ?_
  refine lv_aload_n hx hb dX4_runCycle_58 rfl (lv_at hl 1 rfl) ?_
  refine va_get (D := G) (ci := 4) (v := .ref (aE 0)) (C := RX4) (T := TX4) (N := 4) hx hb hts uX4 hown hK hP 13 rfl rfl 2 (by decide) (hts _ kw167) (fun _ h9 => h9) rfl dX4_runCycle_59 ?_
  obtain ⟨q7, hq7, h⟩ := bd_s h
  refine kVi (n := 1) (C := RX2) (ws' := wE cI cJ cA aE aR q6.1 q6.2.1 q6.2.2.1 q6.2.2.2.1 q6.2.2.2.2.1 q6.2.2.2.2.2.1 q6.2.2.2.2.2.2.1 q6.2.2.2.2.2.2.2 ++ (wT aT (aS 0) (aH 0) (aE 0) (aX 0) ++ (wS cI cJ aS pr q7.2.1 ta se q2.1 q2.2.1 su tc sc q2.2.2 cn q7.2.2 ++ ([] : va_W)))) (As := [.ref (aE 0)]) (rest := []) hx hb hml hown hts (c_X2_setPulses l G cI cJ cZ cO cA e aE aR aS _ q6.1 q6.2.1 q6.2.2.1 q6.2.2.2.1 q6.2.2.2.2.1 q6.2.2.2.2.2.1 q6.2.2.2.2.2.2.1 q6.2.2.2.2.2.2.2 pr pu ta se q2.1 q2.2.1 su tc sc q2.2.2 cn so hq7) (tb_V kw369 kw370 kw371 kw2 kw372) rfl rfl (by decide +kernel) ⟨Nat.le_of_ble_eq_true rfl, Nat.le_of_ble_eq_true rfl⟩ hK hP hD hS hA hE 14 rfl rfl [0, 1, 2, 3, 4, 5, 6, 7, 8, 9, 10, 11, 12, 14, 15, 16, 17, 18, 19, 20, 21] [13] rfl rfl rfl 22 ⟨rfl, rfl⟩ (by decide +kernel) (by decide +kernel) rfl rfl hl.1 (Nat.le_of_ble_eq_true rfl) ⟨Nat.zero_le _, Nat.zero_le _⟩ dX4_runCycle_62 (fun H locs hP hD hS => ?_)
  refine lv_istore_n (lv' := [(2, .int q7.1), (1, .int q1), (0, .ref aT)]) hx hb dX4_runCycle_65 rfl hl (by decide) rfl (fun ls hl => ?_)
  refine lv_aload_n hx hb dX4_runCycle_66 rfl (lv_at hl 2 rfl) ?_
  refine va_get (D := G) (ci := 4) (v := .ref (aS 0)) (C := RX4) (T := TX4) (N := 4) hx hb hts uX4 hown hK hP 13 rfl rfl 0 (by decide) (hts _ kw165) (fun _ h9 => h9) rfl dX4_runCycle_67 ?_
  refine lv_iload_n hx hb dX4_runCycle_70 rfl (lv_at hl 1 rfl) ?_
  obtain ⟨q8, hq8, h⟩ := bd_s h
  refine kVv (n := 1) (C := RX2) (ws' := wE cI cJ cA aE aR q6.1 q6.2.1 q6.2.2.1 q6.2.2.2.1 q6.2.2.2.2.1 q6.2.2.2.2.2.1 q6.2.2.2.2.2.2.1 q6.2.2.2.2.2.2.2 ++ (wT aT (aS 0) (aH 0) (aE 0) (aX 0) ++ (wS cI cJ aS pr q7.2.1 ta se q2.1 q8.1 q8.2 tc sc q2.2.2 cn q7.2.2 ++ ([] : va_W)))) (As := [.int q1]) (rest := []) hx hb hml hown hts (c_X2_deliver l G cI cJ cZ cO cA e aS _ pr q7.2.1 ta se q2.1 q2.2.1 su tc sc q2.2.2 cn q7.2.2 q1 hq8) (tb_V kw374 kw375 kw376 kw2 kw377) rfl rfl (by decide +kernel) ⟨Nat.le_of_ble_eq_true rfl, Nat.le_of_ble_eq_true rfl⟩ hK hP hD hS hA hE 14 rfl rfl [14, 15, 16, 17, 18, 19, 20, 21] [0, 1, 2, 3, 4, 5, 6, 7, 8, 9, 10, 11, 12, 13] rfl rfl rfl 22 ⟨rfl, rfl⟩ (by decide +kernel) (by decide +kernel) rfl rfl hl.1 (Nat.le_of_ble_eq_true rfl) ⟨Nat.zero_le _, Nat.zero_le _⟩ dX4_runCycle_71 (fun H locs hP hD hS => ?_)
  refine lv_aload_n hx hb dX4_runCycle_74 rfl (lv_at hl 2 rfl) ?_
  refine va_get (D := G) (ci := 4) (v := .ref (aS 0)) (C := RX4) (T := TX4) (N := 4) hx hb hts uX4 hown hK hP 13 rfl rfl 0 (by decide) (hts _ kw165) (fun _ h9 => h9) rfl dX4_runCycle_75 ?_
  refine lv_iload_n hx hb dX4_runCycle_78 rfl (lv_at hl 1 rfl) ?_
  obtain ⟨q9, hq9, h⟩ := bd_s h
  refine kVv (n := 1) (C := RX2) (ws' := wE cI cJ cA aE aR q6.1 q6.2.1 q6.2.2.1 q6.2.2.2.1 q6.2.2.2.2.1 q6.2.2.2.2.2.1 q6.2.2.2.2.2.2.1 q6.2.2.2.2.2.2.2 ++ (wT aT (aS 0) (aH 0) (aE 0) (aX 0) ++ (wS cI cJ aS pr q7.2.1 q9 se q2.1 q8.1 q8.2 tc sc q2.2.2 cn q7.2.2 ++ ([] : va_W)))) (As := [.int q1]) (rest := []) hx hb hml hown hts (c_X2_burn l G cI cJ cZ cO cA e aS _ pr q7.2.1 ta se q2.1 q8.1 q8.2 tc sc q2.2.2 cn q7.2.2 q1 hq9) (tb_V kw384 kw385 kw386 kw2 kw387) rfl rfl (by decide +kernel) ⟨Nat.le_of_ble_eq_true rfl, Nat.le_of_ble_eq_true rfl⟩ hK hP hD hS hA hE 14 rfl rfl [14, 15, 16, 17, 18, 19, 20, 21] [0, 1, 2, 3, 4, 5, 6, 7, 8, 9, 10, 11, 12, 13] rfl rfl rfl 22 ⟨rfl, rfl⟩ (by decide +kernel) (by decide +kernel) rfl rfl hl.1 (Nat.le_of_ble_eq_true rfl) ⟨Nat.zero_le _, Nat.zero_le _⟩ dX4_runCycle_79 (fun H locs hP hD hS => ?_)
  refine lv_aload_n hx hb dX4_runCycle_82 rfl (lv_at hl 2 rfl) ?_
  refine va_get (D := G) (ci := 4) (v := .ref (aS 0)) (C := RX4) (T := TX4) (N := 4) hx hb hts uX4 hown hK hP 13 rfl rfl 0 (by decide) (hts _ kw165) (fun _ h9 => h9) rfl dX4_runCycle_83 ?_
  refine lv_dup hx hb dX4_runCycle_86 rfl ?_
  refine va_getN (D := G) (ci := 2) (v := .int cn) (C := RX2) (T := TX2) (N := 12) hx hb hts uX2 hown hK hP 14 rfl rfl 10 (by decide) (hE.nw nk48) (fun _ h9 => h9) rfl dX4_runCycle_87 ?_
  refine lv_iconst (v := 1) hx hb dX4_runCycle_90 (by decide) ?_
  refine lv_iadd hx hb dX4_runCycle_91 ?_
  refine va_putN (D := G) (ci := 2) (ty := .int) (v := .int (cn + 1)) (C := RX2) (T := TX2) (N := 12) hx hb hts uX2 tyX2 tyX2_ok nmX2 hown hK hP hD hS 14 rfl rfl 10 (by decide) (hE.nw nk48) (fun _ h9 => h9) rfl (by decide +kernel) rfl rfl (Nat.le_of_ble_eq_true rfl) dX4_runCycle_92 (fun H locs hP hD hS => ?_)
  have hP : va_P G vwCl (wE cI cJ cA aE aR q6.1 q6.2.1 q6.2.2.1 q6.2.2.2.1 q6.2.2.2.2.1 q6.2.2.2.2.2.1 q6.2.2.2.2.2.2.1 q6.2.2.2.2.2.2.2 ++ (wT aT (aS 0) (aH 0) (aE 0) (aX 0) ++ (wS cI cJ aS pr q7.2.1 q9 se q2.1 q8.1 q8.2 tc sc q2.2.2 (cn + 1) q7.2.2 ++ ([] : va_W)))) H := hP
  have hD : va_D A (wE cI cJ cA aE aR q6.1 q6.2.1 q6.2.2.1 q6.2.2.2.1 q6.2.2.2.2.1 q6.2.2.2.2.2.1 q6.2.2.2.2.2.2.1 q6.2.2.2.2.2.2.2 ++ (wT aT (aS 0) (aH 0) (aE 0) (aX 0) ++ (wS cI cJ aS pr q7.2.1 q9 se q2.1 q8.1 q8.2 tc sc q2.2.2 (cn + 1) q7.2.2 ++ ([] : va_W)))) := hD
  refine lv_aload_n hx hb dX4_runCycle_95 rfl (lv_at hl 2 rfl) ?_
  refine va_get (D := G) (ci := 4) (v := .ref (aE 0)) (C := RX4) (T := TX4) (N := 4) hx hb hts uX4 hown hK hP 13 rfl rfl 2 (by decide) (hts _ kw167) (fun _ h9 => h9) rfl dX4_runCycle_96 ?_
  refine va_getN (D := G) (ci := 1) (v := .int q6.2.2.2.2.2.2.2) (C := RX1) (T := TX1) (N := 8) hx hb hts uX1 hown hK hP 0 rfl rfl 7 (by decide) (hE.nw nk114) (fun _ h9 => h9) rfl dX4_runCycle_99 ?_
  refine lv_if_eq (tgt := 109) hx hb dX4_runCycle_102 (by decide) (fun c10 => ?_) (fun c10 => ?_)
  · replace h := (if_pos c10).symm.trans h
    refine lv_ldc (v := (-2000000000)) hx hb hown (hts _ kw333) dX4_runCycle_109 ?_
    rw [← Option.some.inj h]
    exact kri hx hb hr hlk rfl rfl hP hD hS hK dX4_runCycle_111
  · replace h := (if_neg c10).symm.trans h
    refine lv_iload_n hx hb dX4_runCycle_105 rfl (lv_at hl 0 rfl) ?_
    refine lv_goto (tgt := 111) hx hb dX4_runCycle_106 (by decide) ?_
    rw [← Option.some.inj h]
    exact kri hx hb hr hlk rfl rfl hP hD hS hK dX4_runCycle_111

/-! X4_cycle -/
def f_X4_cycle (pr : Nat → Int32) (se : Nat → Int32) (tc : Int32) (sc : Int32) (un : Nat → Nat → Int32) (tp : Nat → Int32) (sh : Nat → Int64) (de : Int64) (co : Int64) (ma : Int32) (ru : Int32) (fo : Int32) (pu : Nat → Int32) (ta : Nat → Int32) (qu : Nat → Int32) (im : Nat → Int32) (su : Nat → Int64) (rc : Int32) (cn : Int32) (so : Int32) (hs : Nat → SV) (ol : Int32) (ct : Int32) : Option (Int32 × (Nat → Nat → Int32) × (Nat → Int32) × (Nat → Int64) × Int64 × Int64 × Int32 × Int32 × Int32 × (Nat → Int32) × (Nat → Int32) × (Nat → Int32) × (Nat → Int32) × (Nat → Int64) × Int32 × Int32 × Int32 × (Nat → SV) × Int32 × Int32) :=
  (f_X0_keep pr pu ta se qu im su tc sc rc cn so hs ol ct).bind (fun q1 => (f_X4_runCycle pr se tc sc un tp sh de co ma ru fo pu ta qu im su rc cn so).bind (fun q2 => some (q2.1, q2.2.1, q2.2.2.1, q2.2.2.2.1, q2.2.2.2.2.1, q2.2.2.2.2.2.1, q2.2.2.2.2.2.2.1, q2.2.2.2.2.2.2.2.1, q2.2.2.2.2.2.2.2.2.1, q2.2.2.2.2.2.2.2.2.2.1, q2.2.2.2.2.2.2.2.2.2.2.1, q2.2.2.2.2.2.2.2.2.2.2.2.1, q2.2.2.2.2.2.2.2.2.2.2.2.2.1, q2.2.2.2.2.2.2.2.2.2.2.2.2.2.1, q2.2.2.2.2.2.2.2.2.2.2.2.2.2.2.1, q2.2.2.2.2.2.2.2.2.2.2.2.2.2.2.2.1, q2.2.2.2.2.2.2.2.2.2.2.2.2.2.2.2.2, q1.1, q1.2.1, q1.2.2)))

set_option maxHeartbeats 4000000 in
set_option maxRecDepth 100000 in
theorem c_X4_cycle (l : Launch) (G : va_G) (cI cJ cZ cO cA : ClassId) (e : Nat × Nat) (aE : Nat → Nat) (aR : Nat → Nat) (aT : Nat) (aS : Nat → Nat) (aH : Nat → Nat) (aX : Nat → Nat) (aK : Nat → Nat → Nat) (sz : Nat) (un : Nat → Nat → Int32) (tp : Nat → Int32) (sh : Nat → Int64) (de : Int64) (co : Int64) (ma : Int32) (ru : Int32) (fo : Int32) (pr : Nat → Int32) (pu : Nat → Int32) (ta : Nat → Int32) (se : Nat → Int32) (qu : Nat → Int32) (im : Nat → Int32) (su : Nat → Int64) (tc : Int32) (sc : Int32) (rc : Int32) (cn : Int32) (so : Int32) (hs : Nat → SV) (ol : Int32) (ct : Int32) {res : Int32 × (Nat → Nat → Int32) × (Nat → Int32) × (Nat → Int64) × Int64 × Int64 × Int32 × Int32 × Int32 × (Nat → Int32) × (Nat → Int32) × (Nat → Int32) × (Nat → Int32) × (Nat → Int64) × Int32 × Int32 × Int32 × (Nat → SV) × Int32 × Int32} (hf : f_X4_cycle pr se tc sc un tp sh de co ma ru fo pu ta qu im su rc cn so hs ol ct = some res) : MetI l yX4_cycle cX4_cycle 1 .int ({ frames := 7, cells := 0, slots := 0, locals := 158 } : Room) [.ref aT] G (ty5 cI cJ cZ cO cA) e (wE cI cJ cA aE aR un tp sh de co ma ru fo ++ (wT aT (aS 0) (aH 0) (aE 0) (aX 0) ++ (wS cI cJ aS pr pu ta se qu im su tc sc rc cn so ++ (wH cI cJ cO aH aK hs ol ct ++ ([] : va_W))))) (wE cI cJ cA aE aR res.2.1 res.2.2.1 res.2.2.2.1 res.2.2.2.2.1 res.2.2.2.2.2.1 res.2.2.2.2.2.2.1 res.2.2.2.2.2.2.2.1 res.2.2.2.2.2.2.2.2.1 ++ (wT aT (aS 0) (aH 0) (aE 0) (aX 0) ++ (wS cI cJ aS pr res.2.2.2.2.2.2.2.2.2.1 res.2.2.2.2.2.2.2.2.2.2.1 se res.2.2.2.2.2.2.2.2.2.2.2.1 res.2.2.2.2.2.2.2.2.2.2.2.2.1 res.2.2.2.2.2.2.2.2.2.2.2.2.2.1 tc sc res.2.2.2.2.2.2.2.2.2.2.2.2.2.2.1 res.2.2.2.2.2.2.2.2.2.2.2.2.2.2.2.1 res.2.2.2.2.2.2.2.2.2.2.2.2.2.2.2.2.1 ++ (wH cI cJ cO aH aK res.2.2.2.2.2.2.2.2.2.2.2.2.2.2.2.2.2.1 res.2.2.2.2.2.2.2.2.2.2.2.2.2.2.2.2.2.2.1 res.2.2.2.2.2.2.2.2.2.2.2.2.2.2.2.2.2.2.2 ++ ([] : va_W))))) sz res.1 := by
  refine g_body (QQ := fun A => (qI G (ty5 cI cJ cZ cO cA) A (wE cI cJ cA aE aR res.2.1 res.2.2.1 res.2.2.2.1 res.2.2.2.2.1 res.2.2.2.2.2.1 res.2.2.2.2.2.2.1 res.2.2.2.2.2.2.2.1 res.2.2.2.2.2.2.2.2.1 ++ (wT aT (aS 0) (aH 0) (aE 0) (aX 0) ++ (wS cI cJ aS pr res.2.2.2.2.2.2.2.2.2.1 res.2.2.2.2.2.2.2.2.2.2.1 se res.2.2.2.2.2.2.2.2.2.2.2.1 res.2.2.2.2.2.2.2.2.2.2.2.2.1 res.2.2.2.2.2.2.2.2.2.2.2.2.2.1 tc sc res.2.2.2.2.2.2.2.2.2.2.2.2.2.2.1 res.2.2.2.2.2.2.2.2.2.2.2.2.2.2.2.1 res.2.2.2.2.2.2.2.2.2.2.2.2.2.2.2.2.1 ++ (wH cI cJ cO aH aK res.2.2.2.2.2.2.2.2.2.2.2.2.2.2.2.2.2.1 res.2.2.2.2.2.2.2.2.2.2.2.2.2.2.2.2.2.2.1 res.2.2.2.2.2.2.2.2.2.2.2.2.2.2.2.2.2.2.2 ++ ([] : va_W))))) res.1)) (own := RX4) (by decide) rfl (Nat.le_of_ble_eq_true rfl) ?_
  intro p ev s m below meth c A ls hx hb hr hml hown hts hlk hA hP hD hS hK hE hl
  have hl : lv_has ls 1 [(0, .ref aT)] := hl
  show W p l ev ({ frames := 7, cells := 0, slots := 0, locals := 158 } : Room) s m ([.ref aT] : List Value).toArray below meth c s.heap [] 0 0 (MQ below (qI G (ty5 cI cJ cZ cO cA) A (wE cI cJ cA aE aR res.2.1 res.2.2.1 res.2.2.2.1 res.2.2.2.2.1 res.2.2.2.2.2.1 res.2.2.2.2.2.2.1 res.2.2.2.2.2.2.2.1 res.2.2.2.2.2.2.2.2.1 ++ (wT aT (aS 0) (aH 0) (aE 0) (aX 0) ++ (wS cI cJ aS pr res.2.2.2.2.2.2.2.2.2.1 res.2.2.2.2.2.2.2.2.2.2.1 se res.2.2.2.2.2.2.2.2.2.2.2.1 res.2.2.2.2.2.2.2.2.2.2.2.2.1 res.2.2.2.2.2.2.2.2.2.2.2.2.2.1 tc sc res.2.2.2.2.2.2.2.2.2.2.2.2.2.2.1 res.2.2.2.2.2.2.2.2.2.2.2.2.2.2.2.1 res.2.2.2.2.2.2.2.2.2.2.2.2.2.2.2.2.1 ++ (wH cI cJ cO aH aK res.2.2.2.2.2.2.2.2.2.2.2.2.2.2.2.2.2.1 res.2.2.2.2.2.2.2.2.2.2.2.2.2.2.2.2.2.2.1 res.2.2.2.2.2.2.2.2.2.2.2.2.2.2.2.2.2.2.2 ++ ([] : va_W))))) res.1) ([.ref aT] : List Value).toArray s 0 0 A) (F0 m 0 ls [])
  have h := hf
  unfold f_X4_cycle at h
  refine lv_aload_n hx hb dX4_cycle_0 rfl (lv_at hl 0 rfl) ?_
  refine va_get (D := G) (ci := 4) (v := .ref (aH 0)) (C := RX4) (T := TX4) (N := 4) hx hb hts uX4 hown hK hP 13 rfl rfl 1 (by decide) (hts _ kw166) (fun _ h9 => h9) rfl dX4_cycle_1 ?_
  refine lv_aload_n hx hb dX4_cycle_4 rfl (lv_at hl 0 rfl) ?_
  refine va_get (D := G) (ci := 4) (v := .ref (aS 0)) (C := RX4) (T := TX4) (N := 4) hx hb hts uX4 hown hK hP 13 rfl rfl 0 (by decide) (hts _ kw165) (fun _ h9 => h9) rfl dX4_cycle_5 ?_
  obtain ⟨q1, hq1, h⟩ := bd_s h
  refine kVv (n := 1) (C := RX0) (ws' := wE cI cJ cA aE aR un tp sh de co ma ru fo ++ (wT aT (aS 0) (aH 0) (aE 0) (aX 0) ++ (wS cI cJ aS pr pu ta se qu im su tc sc rc cn so ++ (wH cI cJ cO aH aK q1.1 q1.2.1 q1.2.2 ++ ([] : va_W))))) (As := [.ref (aS 0)]) (rest := []) hx hb hml hown hts (c_X0_keep l G cI cJ cZ cO cA e aS aH aK _ pr pu ta se qu im su tc sc rc cn so hs ol ct hq1) (tb_V kw194 kw195 kw196 kw4 kw197) rfl rfl (by decide +kernel) ⟨Nat.le_of_ble_eq_true rfl, Nat.le_of_ble_eq_true rfl⟩ hK hP hD hS hA hE 22 rfl rfl [14, 15, 16, 17, 18, 19, 20, 21, 22, 23, 24, 25, 26, 27, 28, 29, 30, 31, 32, 33, 34, 35, 36, 37, 38, 39, 40, 41, 42, 43, 44, 45, 46, 47, 48, 49, 50, 51, 52, 53, 54, 55, 56, 57, 58, 59, 60, 61, 62, 63] [0, 1, 2, 3, 4, 5, 6, 7, 8, 9, 10, 11, 12, 13] rfl rfl rfl 64 ⟨rfl, rfl⟩ (by decide +kernel) (by decide +kernel) rfl rfl hl.1 (Nat.le_of_ble_eq_true rfl) ⟨Nat.zero_le _, Nat.zero_le _⟩ dX4_cycle_8 (fun H locs hP hD hS => ?_)
  refine lv_aload_n hx hb dX4_cycle_11 rfl (lv_at hl 0 rfl) ?_
  obtain ⟨q2, hq2, h⟩ := bd_s h
  refine kVi (n := 0) (C := RX4) (ws' := wE cI cJ cA aE aR q2.2.1 q2.2.2.1 q2.2.2.2.1 q2.2.2.2.2.1 q2.2.2.2.2.2.1 q2.2.2.2.2.2.2.1 q2.2.2.2.2.2.2.2.1 q2.2.2.2.2.2.2.2.2.1 ++ (wT aT (aS 0) (aH 0) (aE 0) (aX 0) ++ (wS cI cJ aS pr q2.2.2.2.2.2.2.2.2.2.1 q2.2.2.2.2.2.2.2.2.2.2.1 se q2.2.2.2.2.2.2.2.2.2.2.2.1 q2.2.2.2.2.2.2.2.2.2.2.2.2.1 q2.2.2.2.2.2.2.2.2.2.2.2.2.2.1 tc sc q2.2.2.2.2.2.2.2.2.2.2.2.2.2.2.1 q2.2.2.2.2.2.2.2.2.2.2.2.2.2.2.2.1 q2.2.2.2.2.2.2.2.2.2.2.2.2.2.2.2.2 ++ (wH cI cJ cO aH aK q1.1 q1.2.1 q1.2.2 ++ ([] : va_W))))) (As := []) (rest := []) hx hb hml hown hts (c_X4_runCycle l G cI cJ cZ cO cA e aE aR aT aS aH aX _ un tp sh de co ma ru fo pr pu ta se qu im su tc sc rc cn so hq2) (tb_V kw348 kw350 kv4 kw1 kw351) rfl rfl (by decide +kernel) ⟨Nat.le_of_ble_eq_true rfl, Nat.le_of_ble_eq_true rfl⟩ hK hP hD hS hA hE 13 rfl rfl [0, 1, 2, 3, 4, 5, 6, 7, 8, 9, 10, 11, 12, 13, 14, 15, 16, 17, 18, 19, 20, 21] [22, 23, 24, 25, 26, 27, 28, 29, 30, 31, 32, 33, 34, 35, 36, 37, 38, 39, 40, 41, 42, 43, 44, 45, 46, 47, 48, 49, 50, 51, 52, 53, 54, 55, 56, 57, 58, 59, 60, 61, 62, 63] rfl rfl rfl 64 ⟨rfl, rfl⟩ (by decide +kernel) (by decide +kernel) rfl rfl hl.1 (Nat.le_of_ble_eq_true rfl) ⟨Nat.zero_le _, Nat.zero_le _⟩ dX4_cycle_12 (fun H locs hP hD hS => ?_)
  rw [← Option.some.inj h]
  exact kri hx hb hr hlk rfl rfl hP hD hS hK dX4_cycle_15

/-! X4_cycles -/
def f_X4_cycles_b28 (pr : Nat → Int32) (se : Nat → Int32) (tc : Int32) (sc : Int32) (v1 : Int32) (z4 : (Nat → Nat → Int32) × (Nat → Int32) × (Nat → Int64) × Int64 × Int64 × Int32 × Int32 × Int32 × (Nat → Int32) × (Nat → Int32) × (Nat → Int32) × (Nat → Int32) × (Nat → Int64) × Int32 × Int32 × Int32 × Int32 × Int32) : Option (((Nat → Nat → Int32) × (Nat → Int32) × (Nat → Int64) × Int64 × Int64 × Int32 × Int32 × Int32 × (Nat → Int32) × (Nat → Int32) × (Nat → Int32) × (Nat → Int32) × (Nat → Int64) × Int32 × Int32 × Int32 × Int32 × Int32) ⊕ ((Nat → Nat → Int32) × (Nat → Int32) × (Nat → Int64) × Int64 × Int64 × Int32 × Int32 × Int32 × (Nat → Int32) × (Nat → Int32) × (Nat → Int32) × (Nat → Int32) × (Nat → Int64) × Int32 × Int32 × Int32 × Int32)) :=
  if v1 ≤ z4.2.2.2.2.2.2.2.2.2.2.2.2.2.2.2.2.2 then (some (Sum.inr (z4.1, z4.2.1, z4.2.2.1, z4.2.2.2.1, z4.2.2.2.2.1, z4.2.2.2.2.2.1, z4.2.2.2.2.2.2.1, z4.2.2.2.2.2.2.2.1, z4.2.2.2.2.2.2.2.2.1, z4.2.2.2.2.2.2.2.2.2.1, z4.2.2.2.2.2.2.2.2.2.2.1, z4.2.2.2.2.2.2.2.2.2.2.2.1, z4.2.2.2.2.2.2.2.2.2.2.2.2.1, z4.2.2.2.2.2.2.2.2.2.2.2.2.2.1, z4.2.2.2.2.2.2.2.2.2.2.2.2.2.2.1, z4.2.2.2.2.2.2.2.2.2.2.2.2.2.2.2.1, z4.2.2.2.2.2.2.2.2.2.2.2.2.2.2.2.2.1))) else ((f_X4_runCycle pr se tc sc z4.1 z4.2.1 z4.2.2.1 z4.2.2.2.1 z4.2.2.2.2.1 z4.2.2.2.2.2.1 z4.2.2.2.2.2.2.1 z4.2.2.2.2.2.2.2.1 z4.2.2.2.2.2.2.2.2.1 z4.2.2.2.2.2.2.2.2.2.1 z4.2.2.2.2.2.2.2.2.2.2.1 z4.2.2.2.2.2.2.2.2.2.2.2.1 z4.2.2.2.2.2.2.2.2.2.2.2.2.1 z4.2.2.2.2.2.2.2.2.2.2.2.2.2.1 z4.2.2.2.2.2.2.2.2.2.2.2.2.2.2.1 z4.2.2.2.2.2.2.2.2.2.2.2.2.2.2.2.1).bind (fun q6 => if q6.1 = (-2000000000) then (some (Sum.inl (q6.2.1, q6.2.2.1, q6.2.2.2.1, q6.2.2.2.2.1, q6.2.2.2.2.2.1, q6.2.2.2.2.2.2.1, q6.2.2.2.2.2.2.2.1, q6.2.2.2.2.2.2.2.2.1, q6.2.2.2.2.2.2.2.2.2.1, q6.2.2.2.2.2.2.2.2.2.2.1, q6.2.2.2.2.2.2.2.2.2.2.2.1, q6.2.2.2.2.2.2.2.2.2.2.2.2.1, q6.2.2.2.2.2.2.2.2.2.2.2.2.2.1, q6.2.2.2.2.2.2.2.2.2.2.2.2.2.2.1, q6.2.2.2.2.2.2.2.2.2.2.2.2.2.2.2.1, q6.2.2.2.2.2.2.2.2.2.2.2.2.2.2.2.2, z4.2.2.2.2.2.2.2.2.2.2.2.2.2.2.2.2.1, (z4.2.2.2.2.2.2.2.2.2.2.2.2.2.2.2.2.2 + 1)))) else (some (Sum.inl (q6.2.1, q6.2.2.1, q6.2.2.2.1, q6.2.2.2.2.1, q6.2.2.2.2.2.1, q6.2.2.2.2.2.2.1, q6.2.2.2.2.2.2.2.1, q6.2.2.2.2.2.2.2.2.1, q6.2.2.2.2.2.2.2.2.2.1, q6.2.2.2.2.2.2.2.2.2.2.1, q6.2.2.2.2.2.2.2.2.2.2.2.1, q6.2.2.2.2.2.2.2.2.2.2.2.2.1, q6.2.2.2.2.2.2.2.2.2.2.2.2.2.1, q6.2.2.2.2.2.2.2.2.2.2.2.2.2.2.1, q6.2.2.2.2.2.2.2.2.2.2.2.2.2.2.2.1, q6.2.2.2.2.2.2.2.2.2.2.2.2.2.2.2.2, (z4.2.2.2.2.2.2.2.2.2.2.2.2.2.2.2.2.1 + 1), (z4.2.2.2.2.2.2.2.2.2.2.2.2.2.2.2.2.2 + 1))))))
def f_X4_cycles (pr : Nat → Int32) (se : Nat → Int32) (tc : Int32) (sc : Int32) (un : Nat → Nat → Int32) (tp : Nat → Int32) (sh : Nat → Int64) (de : Int64) (co : Int64) (ma : Int32) (ru : Int32) (fo : Int32) (pu : Nat → Int32) (ta : Nat → Int32) (qu : Nat → Int32) (im : Nat → Int32) (su : Nat → Int64) (rc : Int32) (cn : Int32) (so : Int32) (hs : Nat → SV) (ol : Int32) (ct : Int32) (p0 : Int32) : Option (Int32 × (Nat → Nat → Int32) × (Nat → Int32) × (Nat → Int64) × Int64 × Int64 × Int32 × Int32 × Int32 × (Nat → Int32) × (Nat → Int32) × (Nat → Int32) × (Nat → Int32) × (Nat → Int64) × Int32 × Int32 × Int32 × (Nat → SV) × Int32 × Int32) :=
  (f_X4_isWithin p0 1 20).bind (fun q1 => if q1 = 0 then (some ((-2000000002), un, tp, sh, de, co, ma, ru, fo, pu, ta, qu, im, su, rc, cn, so, hs, ol, ct)) else ((f_X0_keep pr pu ta se qu im su tc sc rc cn so hs ol ct).bind (fun q3 => (lp (f_X4_cycles_b28 pr se tc sc p0) 1000 (un, tp, sh, de, co, ma, ru, fo, pu, ta, qu, im, su, rc, cn, so, 0, 0)).bind (fun q4 => some (q4.2.2.2.2.2.2.2.2.2.2.2.2.2.2.2.2, q4.1, q4.2.1, q4.2.2.1, q4.2.2.2.1, q4.2.2.2.2.1, q4.2.2.2.2.2.1, q4.2.2.2.2.2.2.1, q4.2.2.2.2.2.2.2.1, q4.2.2.2.2.2.2.2.2.1, q4.2.2.2.2.2.2.2.2.2.1, q4.2.2.2.2.2.2.2.2.2.2.1, q4.2.2.2.2.2.2.2.2.2.2.2.1, q4.2.2.2.2.2.2.2.2.2.2.2.2.1, q4.2.2.2.2.2.2.2.2.2.2.2.2.2.1, q4.2.2.2.2.2.2.2.2.2.2.2.2.2.2.1, q4.2.2.2.2.2.2.2.2.2.2.2.2.2.2.2.1, q3.1, q3.2.1, q3.2.2)))))

set_option maxHeartbeats 4000000 in
set_option maxRecDepth 100000 in
theorem c_X4_cycles (l : Launch) (G : va_G) (cI cJ cZ cO cA : ClassId) (e : Nat × Nat) (aE : Nat → Nat) (aR : Nat → Nat) (aT : Nat) (aS : Nat → Nat) (aH : Nat → Nat) (aX : Nat → Nat) (aK : Nat → Nat → Nat) (sz : Nat) (un : Nat → Nat → Int32) (tp : Nat → Int32) (sh : Nat → Int64) (de : Int64) (co : Int64) (ma : Int32) (ru : Int32) (fo : Int32) (pr : Nat → Int32) (pu : Nat → Int32) (ta : Nat → Int32) (se : Nat → Int32) (qu : Nat → Int32) (im : Nat → Int32) (su : Nat → Int64) (tc : Int32) (sc : Int32) (rc : Int32) (cn : Int32) (so : Int32) (hs : Nat → SV) (ol : Int32) (ct : Int32) (p0 : Int32) {res : Int32 × (Nat → Nat → Int32) × (Nat → Int32) × (Nat → Int64) × Int64 × Int64 × Int32 × Int32 × Int32 × (Nat → Int32) × (Nat → Int32) × (Nat → Int32) × (Nat → Int32) × (Nat → Int64) × Int32 × Int32 × Int32 × (Nat → SV) × Int32 × Int32} (hf : f_X4_cycles pr se tc sc un tp sh de co ma ru fo pu ta qu im su rc cn so hs ol ct p0 = some res) : MetI l yX4_cycles cX4_cycles 4 .int ({ frames := 7, cells := 0, slots := 0, locals := 158 } : Room) [.ref aT, .int p0] G (ty5 cI cJ cZ cO cA) e (wE cI cJ cA aE aR un tp sh de co ma ru fo ++ (wT aT (aS 0) (aH 0) (aE 0) (aX 0) ++ (wS cI cJ aS pr pu ta se qu im su tc sc rc cn so ++ (wH cI cJ cO aH aK hs ol ct ++ ([] : va_W))))) (wE cI cJ cA aE aR res.2.1 res.2.2.1 res.2.2.2.1 res.2.2.2.2.1 res.2.2.2.2.2.1 res.2.2.2.2.2.2.1 res.2.2.2.2.2.2.2.1 res.2.2.2.2.2.2.2.2.1 ++ (wT aT (aS 0) (aH 0) (aE 0) (aX 0) ++ (wS cI cJ aS pr res.2.2.2.2.2.2.2.2.2.1 res.2.2.2.2.2.2.2.2.2.2.1 se res.2.2.2.2.2.2.2.2.2.2.2.1 res.2.2.2.2.2.2.2.2.2.2.2.2.1 res.2.2.2.2.2.2.2.2.2.2.2.2.2.1 tc sc res.2.2.2.2.2.2.2.2.2.2.2.2.2.2.1 res.2.2.2.2.2.2.2.2.2.2.2.2.2.2.2.1 res.2.2.2.2.2.2.2.2.2.2.2.2.2.2.2.2.1 ++ (wH cI cJ cO aH aK res.2.2.2.2.2.2.2.2.2.2.2.2.2.2.2.2.2.1 res.2.2.2.2.2.2.2.2.2.2.2.2.2.2.2.2.2.2.1 res.2.2.2.2.2.2.2.2.2.2.2.2.2.2.2.2.2.2.2 ++ ([] : va_W))))) sz res.1 := by
  refine g_body (QQ := fun A => (qI G (ty5 cI cJ cZ cO cA) A (wE cI cJ cA aE aR res.2.1 res.2.2.1 res.2.2.2.1 res.2.2.2.2.1 res.2.2.2.2.2.1 res.2.2.2.2.2.2.1 res.2.2.2.2.2.2.2.1 res.2.2.2.2.2.2.2.2.1 ++ (wT aT (aS 0) (aH 0) (aE 0) (aX 0) ++ (wS cI cJ aS pr res.2.2.2.2.2.2.2.2.2.1 res.2.2.2.2.2.2.2.2.2.2.1 se res.2.2.2.2.2.2.2.2.2.2.2.1 res.2.2.2.2.2.2.2.2.2.2.2.2.1 res.2.2.2.2.2.2.2.2.2.2.2.2.2.1 tc sc res.2.2.2.2.2.2.2.2.2.2.2.2.2.2.1 res.2.2.2.2.2.2.2.2.2.2.2.2.2.2.2.1 res.2.2.2.2.2.2.2.2.2.2.2.2.2.2.2.2.1 ++ (wH cI cJ cO aH aK res.2.2.2.2.2.2.2.2.2.2.2.2.2.2.2.2.2.1 res.2.2.2.2.2.2.2.2.2.2.2.2.2.2.2.2.2.2.1 res.2.2.2.2.2.2.2.2.2.2.2.2.2.2.2.2.2.2.2 ++ ([] : va_W))))) res.1)) (own := RX4) (by decide) rfl (Nat.le_of_ble_eq_true rfl) ?_
  intro p ev s m below meth c A ls hx hb hr hml hown hts hlk hA hP hD hS hK hE hl
  have hl : lv_has ls 4 [(0, .ref aT), (1, .int p0)] := hl
  show W p l ev ({ frames := 7, cells := 0, slots := 0, locals := 158 } : Room) s m ([.ref aT, .int p0] : List Value).toArray below meth c s.heap [] 0 0 (MQ below (qI G (ty5 cI cJ cZ cO cA) A (wE cI cJ cA aE aR res.2.1 res.2.2.1 res.2.2.2.1 res.2.2.2.2.1 res.2.2.2.2.2.1 res.2.2.2.2.2.2.1 res.2.2.2.2.2.2.2.1 res.2.2.2.2.2.2.2.2.1 ++ (wT aT (aS 0) (aH 0) (aE 0) (aX 0) ++ (wS cI cJ aS pr res.2.2.2.2.2.2.2.2.2.1 res.2.2.2.2.2.2.2.2.2.2.1 se res.2.2.2.2.2.2.2.2.2.2.2.1 res.2.2.2.2.2.2.2.2.2.2.2.2.1 res.2.2.2.2.2.2.2.2.2.2.2.2.2.1 tc sc res.2.2.2.2.2.2.2.2.2.2.2.2.2.2.1 res.2.2.2.2.2.2.2.2.2.2.2.2.2.2.2.1 res.2.2.2.2.2.2.2.2.2.2.2.2.2.2.2.2.1 ++ (wH cI cJ cO aH aK res.2.2.2.2.2.2.2.2.2.2.2.2.2.2.2.2.2.1 res.2.2.2.2.2.2.2.2.2.2.2.2.2.2.2.2.2.2.1 res.2.2.2.2.2.2.2.2.2.2.2.2.2.2.2.2.2.2.2 ++ ([] : va_W))))) res.1) ([.ref aT, .int p0] : List Value).toArray s 0 0 A) (F0 m 0 ls [])
  have h := hf
  unfold f_X4_cycles at h
  refine lv_iload_n hx hb dX4_cycles_0 rfl (lv_at hl 1 rfl) ?_
  refine lv_iconst (v := 1) hx hb dX4_cycles_1 (by decide) ?_
  refine lv_bipush (v := 20) hx hb dX4_cycles_2 (by decide) ?_
  obtain ⟨q1, hq1, h⟩ := bd_s h
  refine kSi (n := 3) (As := [.int p0, .int 1, .int 20]) (rest := []) hx hb hml hown hts (c_X4_isWithin l G cI cJ cZ cO cA e _ p0 1 20 hq1) (tb_S kw185 kw186 kw1 kw187) rfl rfl (by decide +kernel) ⟨Nat.le_of_ble_eq_true rfl, Nat.le_of_ble_eq_true rfl⟩ hK hP hD hS hA hE rfl rfl hl.1 (Nat.le_of_ble_eq_true rfl) ⟨Nat.zero_le _, Nat.zero_le _⟩ dX4_cycles_4 (fun H locs hP hD hS => ?_)
  refine lv_if_ne (tgt := 13) hx hb dX4_cycles_7 (by decide) (fun c2 => ?_) (fun c2 => ?_)
  · replace h := (if_neg c2).symm.trans h
    refine lv_aload_n hx hb dX4_cycles_13 rfl (lv_at hl 0 rfl) ?_
    refine va_get (D := G) (ci := 4) (v := .ref (aH 0)) (C := RX4) (T := TX4) (N := 4) hx hb hts uX4 hown hK hP 13 rfl rfl 1 (by decide) (hts _ kw166) (fun _ h9 => h9) rfl dX4_cycles_14 ?_
    refine lv_aload_n hx hb dX4_cycles_17 rfl (lv_at hl 0 rfl) ?_
    refine va_get (D := G) (ci := 4) (v := .ref (aS 0)) (C := RX4) (T := TX4) (N := 4) hx hb hts uX4 hown hK hP 13 rfl rfl 0 (by decide) (hts _ kw165) (fun _ h9 => h9) rfl dX4_cycles_18 ?_
    obtain ⟨q3, hq3, h⟩ := bd_s h
    refine kVv (n := 1) (C := RX0) (ws' := wE cI cJ cA aE aR un tp sh de co ma ru fo ++ (wT aT (aS 0) (aH 0) (aE 0) (aX 0) ++ (wS cI cJ aS pr pu ta se qu im su tc sc rc cn so ++ (wH cI cJ cO aH aK q3.1 q3.2.1 q3.2.2 ++ ([] : va_W))))) (As := [.ref (aS 0)]) (rest := []) hx hb hml hown hts (c_X0_keep l G cI cJ cZ cO cA e aS aH aK _ pr pu ta se qu im su tc sc rc cn so hs ol ct hq3) (tb_V kw194 kw195 kw196 kw4 kw197) rfl rfl (by decide +kernel) ⟨Nat.le_of_ble_eq_true rfl, Nat.le_of_ble_eq_true rfl⟩ hK hP hD hS hA hE 22 rfl rfl [14, 15, 16, 17, 18, 19, 20, 21, 22, 23, 24, 25, 26, 27, 28, 29, 30, 31, 32, 33, 34, 35, 36, 37, 38, 39, 40, 41, 42, 43, 44, 45, 46, 47, 48, 49, 50, 51, 52, 53, 54, 55, 56, 57, 58, 59, 60, 61, 62, 63] [0, 1, 2, 3, 4, 5, 6, 7, 8, 9, 10, 11, 12, 13] rfl rfl rfl 64 ⟨rfl, rfl⟩ (by decide +kernel) (by decide +kernel) rfl rfl hl.1 (Nat.le_of_ble_eq_true rfl) ⟨Nat.zero_le _, Nat.zero_le _⟩ dX4_cycles_21 (fun H locs hP hD hS => ?_)
    refine lv_iconst (v := 0) hx hb dX4_cycles_24 (by decide) ?_
    refine lv_istore_n (lv' := [(2, .int 0), (0, .ref aT), (1, .int p0)]) hx hb dX4_cycles_25 rfl hl (by decide) rfl (fun ls hl => ?_)
    refine lv_iconst (v := 0) hx hb dX4_cycles_26 (by decide) ?_
    refine lv_istore_n (lv' := [(3, .int 0), (2, .int 0), (0, .ref aT), (1, .int p0)]) hx hb dX4_cycles_27 rfl hl (by decide) rfl (fun ls hl => ?_)
    obtain ⟨q4, hq4, h⟩ := bd_s h
    have hX4_0 : ∀ (x4 : (Nat → Nat → Int32) × (Nat → Int32) × (Nat → Int64) × Int64 × Int64 × Int32 × Int32 × Int32 × (Nat → Int32) × (Nat → Int32) × (Nat → Int32) × (Nat → Int32) × (Nat → Int64) × Int32 × Int32 × Int32 × Int32) (H : Heap) (locs : List Loc) (ls : Array Slot), x4 = q4 → va_P G vwCl (wE cI cJ cA aE aR x4.1 x4.2.1 x4.2.2.1 x4.2.2.2.1 x4.2.2.2.2.1 x4.2.2.2.2.2.1 x4.2.2.2.2.2.2.1 x4.2.2.2.2.2.2.2.1 ++ (wT aT (aS 0) (aH 0) (aE 0) (aX 0) ++ (wS cI cJ aS pr x4.2.2.2.2.2.2.2.2.1 x4.2.2.2.2.2.2.2.2.2.1 se x4.2.2.2.2.2.2.2.2.2.2.1 x4.2.2.2.2.2.2.2.2.2.2.2.1 x4.2.2.2.2.2.2.2.2.2.2.2.2.1 tc sc x4.2.2.2.2.2.2.2.2.2.2.2.2.2.1 x4.2.2.2.2.2.2.2.2.2.2.2.2.2.2.1 x4.2.2.2.2.2.2.2.2.2.2.2.2.2.2.2.1 ++ (wH cI cJ cO aH aK q3.1 q3.2.1 q3.2.2 ++ ([] : va_W))))) H → va_D A (wE cI cJ cA aE aR x4.1 x4.2.1 x4.2.2.1 x4.2.2.2.1 x4.2.2.2.2.1 x4.2.2.2.2.2.1 x4.2.2.2.2.2.2.1 x4.2.2.2.2.2.2.2.1 ++ (wT aT (aS 0) (aH 0) (aE 0) (aX 0) ++ (wS cI cJ aS pr x4.2.2.2.2.2.2.2.2.1 x4.2.2.2.2.2.2.2.2.2.1 se x4.2.2.2.2.2.2.2.2.2.2.1 x4.2.2.2.2.2.2.2.2.2.2.2.1 x4.2.2.2.2.2.2.2.2.2.2.2.2.1 tc sc x4.2.2.2.2.2.2.2.2.2.2.2.2.2.1 x4.2.2.2.2.2.2.2.2.2.2.2.2.2.2.1 x4.2.2.2.2.2.2.2.2.2.2.2.2.2.2.2.1 ++ (wH cI cJ cO aH aK q3.1 q3.2.1 q3.2.2 ++ ([] : va_W))))) → va_S A s.heap H locs → lv_has ls 4 [(2, .int x4.2.2.2.2.2.2.2.2.2.2.2.2.2.2.2.2)] → W p l ev ({ frames := 7, cells := 0, slots := 0, locals := 158 } : Room) s m ([.ref aT, .int p0] : List Value).toArray below meth c H locs 0 0 (MQ below (qI G (ty5 cI cJ cZ cO cA) A (wE cI cJ cA aE aR res.2.1 res.2.2.1 res.2.2.2.1 res.2.2.2.2.1 res.2.2.2.2.2.1 res.2.2.2.2.2.2.1 res.2.2.2.2.2.2.2.1 res.2.2.2.2.2.2.2.2.1 ++ (wT aT (aS 0) (aH 0) (aE 0) (aX 0) ++ (wS cI cJ aS pr res.2.2.2.2.2.2.2.2.2.1 res.2.2.2.2.2.2.2.2.2.2.1 se res.2.2.2.2.2.2.2.2.2.2.2.1 res.2.2.2.2.2.2.2.2.2.2.2.2.1 res.2.2.2.2.2.2.2.2.2.2.2.2.2.1 tc sc res.2.2.2.2.2.2.2.2.2.2.2.2.2.2.1 res.2.2.2.2.2.2.2.2.2.2.2.2.2.2.2.1 res.2.2.2.2.2.2.2.2.2.2.2.2.2.2.2.2.1 ++ (wH cI cJ cO aH aK res.2.2.2.2.2.2.2.2.2.2.2.2.2.2.2.2.2.1 res.2.2.2.2.2.2.2.2.2.2.2.2.2.2.2.2.2.2.1 res.2.2.2.2.2.2.2.2.2.2.2.2.2.2.2.2.2.2.2 ++ ([] : va_W))))) res.1) ([.ref aT, .int p0] : List Value).toArray s 0 0 A) (F0 m 51 ls []) := by
      intro x4 H locs ls e4 hP hD hS hl
      replace e4 := e4.symm
      subst e4
      refine lv_iload_n hx hb dX4_cycles_51 rfl (lv_at hl 0 rfl) ?_
      rw [← Option.some.inj h]
      exact kri hx hb hr hlk rfl rfl hP hD hS hK dX4_cycles_52
    have hL4 : ∀ (n : Nat) (z4 : (Nat → Nat → Int32) × (Nat → Int32) × (Nat → Int64) × Int64 × Int64 × Int32 × Int32 × Int32 × (Nat → Int32) × (Nat → Int32) × (Nat → Int32) × (Nat → Int32) × (Nat → Int64) × Int32 × Int32 × Int32 × Int32 × Int32) (H : Heap) (locs : List Loc) (ls : Array Slot), lp (f_X4_cycles_b28 pr se tc sc p0) n z4 = some q4 → va_P G vwCl (wE cI cJ cA aE aR z4.1 z4.2.1 z4.2.2.1 z4.2.2.2.1 z4.2.2.2.2.1 z4.2.2.2.2.2.1 z4.2.2.2.2.2.2.1 z4.2.2.2.2.2.2.2.1 ++ (wT aT (aS 0) (aH 0) (aE 0) (aX 0) ++ (wS cI cJ aS pr z4.2.2.2.2.2.2.2.2.1 z4.2.2.2.2.2.2.2.2.2.1 se z4.2.2.2.2.2.2.2.2.2.2.1 z4.2.2.2.2.2.2.2.2.2.2.2.1 z4.2.2.2.2.2.2.2.2.2.2.2.2.1 tc sc z4.2.2.2.2.2.2.2.2.2.2.2.2.2.1 z4.2.2.2.2.2.2.2.2.2.2.2.2.2.2.1 z4.2.2.2.2.2.2.2.2.2.2.2.2.2.2.2.1 ++ (wH cI cJ cO aH aK q3.1 q3.2.1 q3.2.2 ++ ([] : va_W))))) H → va_D A (wE cI cJ cA aE aR z4.1 z4.2.1 z4.2.2.1 z4.2.2.2.1 z4.2.2.2.2.1 z4.2.2.2.2.2.1 z4.2.2.2.2.2.2.1 z4.2.2.2.2.2.2.2.1 ++ (wT aT (aS 0) (aH 0) (aE 0) (aX 0) ++ (wS cI cJ aS pr z4.2.2.2.2.2.2.2.2.1 z4.2.2.2.2.2.2.2.2.2.1 se z4.2.2.2.2.2.2.2.2.2.2.1 z4.2.2.2.2.2.2.2.2.2.2.2.1 z4.2.2.2.2.2.2.2.2.2.2.2.2.1 tc sc z4.2.2.2.2.2.2.2.2.2.2.2.2.2.1 z4.2.2.2.2.2.2.2.2.2.2.2.2.2.2.1 z4.2.2.2.2.2.2.2.2.2.2.2.2.2.2.2.1 ++ (wH cI cJ cO aH aK q3.1 q3.2.1 q3.2.2 ++ ([] : va_W))))) → va_S A s.heap H locs → lv_has ls 4 [(0, .ref aT), (1, .int p0), (2, .int z4.2.2.2.2.2.2.2.2.2.2.2.2.2.2.2.2.1), (3, .int z4.2.2.2.2.2.2.2.2.2.2.2.2.2.2.2.2.2)] → W p l ev ({ frames := 7, cells := 0, slots := 0, locals := 158 } : Room) s m ([.ref aT, .int p0] : List Value).toArray below meth c H locs 0 0 (MQ below (qI G (ty5 cI cJ cZ cO cA) A (wE cI cJ cA aE aR res.2.1 res.2.2.1 res.2.2.2.1 res.2.2.2.2.1 res.2.2.2.2.2.1 res.2.2.2.2.2.2.1 res.2.2.2.2.2.2.2.1 res.2.2.2.2.2.2.2.2.1 ++ (wT aT (aS 0) (aH 0) (aE 0) (aX 0) ++ (wS cI cJ aS pr res.2.2.2.2.2.2.2.2.2.1 res.2.2.2.2.2.2.2.2.2.2.1 se res.2.2.2.2.2.2.2.2.2.2.2.1 res.2.2.2.2.2.2.2.2.2.2.2.2.1 res.2.2.2.2.2.2.2.2.2.2.2.2.2.1 tc sc res.2.2.2.2.2.2.2.2.2.2.2.2.2.2.1 res.2.2.2.2.2.2.2.2.2.2.2.2.2.2.2.1 res.2.2.2.2.2.2.2.2.2.2.2.2.2.2.2.2.1 ++ (wH cI cJ cO aH aK res.2.2.2.2.2.2.2.2.2.2.2.2.2.2.2.2.2.1 res.2.2.2.2.2.2.2.2.2.2.2.2.2.2.2.2.2.2.1 res.2.2.2.2.2.2.2.2.2.2.2.2.2.2.2.2.2.2.2 ++ ([] : va_W))))) res.1) ([.ref aT, .int p0] : List Value).toArray s 0 0 A) (F0 m 28 ls []) := by
      intro n
      induction n with
      | zero => intro z4 H locs ls h; cases h
      | succ n ih4 =>
        intro z4 H locs ls h hP hD hS hl
        obtain ⟨o4, h, h4⟩ := lp_s h
        unfold f_X4_cycles_b28 at h
        refine lv_iload_n hx hb dX4_cycles_28 rfl (lv_at hl 3 rfl) ?_
        refine lv_iload_n hx hb dX4_cycles_29 rfl (lv_at hl 1 rfl) ?_
        refine lv_icmp_ge (tgt := 51) hx hb dX4_cycles_30 (by decide) (fun c5 => ?_) (fun c5 => ?_)
        · replace h := (if_pos c5).symm.trans h
          rw [← Option.some.inj h] at h4
          exact hX4_0 (z4.1, z4.2.1, z4.2.2.1, z4.2.2.2.1, z4.2.2.2.2.1, z4.2.2.2.2.2.1, z4.2.2.2.2.2.2.1, z4.2.2.2.2.2.2.2.1, z4.2.2.2.2.2.2.2.2.1, z4.2.2.2.2.2.2.2.2.2.1, z4.2.2.2.2.2.2.2.2.2.2.1, z4.2.2.2.2.2.2.2.2.2.2.2.1, z4.2.2.2.2.2.2.2.2.2.2.2.2.1, z4.2.2.2.2.2.2.2.2.2.2.2.2.2.1, z4.2.2.2.2.2.2.2.2.2.2.2.2.2.2.1, z4.2.2.2.2.2.2.2.2.2.2.2.2.2.2.2.1, z4.2.2.2.2.2.2.2.2.2.2.2.2.2.2.2.2.1) _ _ _ (lp_x h4) hP hD hS (lv_sub hl [2] rfl)
        · replace h := (if_neg c5).symm.trans h
          refine lv_aload_n hx hb dX4_cycles_33 rfl (lv_at hl 0 rfl) ?_
          obtain ⟨q6, hq6, h⟩ := bd_s h
          refine kVi (n := 0) (C := RX4) (ws' := wE cI cJ cA aE aR q6.2.1 q6.2.2.1 q6.2.2.2.1 q6.2.2.2.2.1 q6.2.2.2.2.2.1 q6.2.2.2.2.2.2.1 q6.2.2.2.2.2.2.2.1 q6.2.2.2.2.2.2.2.2.1 ++ (wT aT (aS 0) (aH 0) (aE 0) (aX 0) ++ (wS cI cJ aS pr q6.2.2.2.2.2.2.2.2.2.1 q6.2.2.2.2.2.2.2.2.2.2.1 se q6.2.2.2.2.2.2.2.2.2.2.2.1 q6.2.2.2.2.2.2.2.2.2.2.2.2.1 q6.2.2.2.2.2.2.2.2.2.2.2.2.2.1 tc sc q6.2.2.2.2.2.2.2.2.2.2.2.2.2.2.1 q6.2.2.2.2.2.2.2.2.2.2.2.2.2.2.2.1 q6.2.2.2.2.2.2.2.2.2.2.2.2.2.2.2.2 ++ (wH cI cJ cO aH aK q3.1 q3.2.1 q3.2.2 ++ ([] : va_W))))) (As := []) (rest := []) hx hb hml hown hts (c_X4_runCycle l G cI cJ cZ cO cA e aE aR aT aS aH aX _ z4.1 z4.2.1 z4.2.2.1 z4.2.2.2.1 z4.2.2.2.2.1 z4.2.2.2.2.2.1 z4.2.2.2.2.2.2.1 z4.2.2.2.2.2.2.2.1 pr z4.2.2.2.2.2.2.2.2.1 z4.2.2.2.2.2.2.2.2.2.1 se z4.2.2.2.2.2.2.2.2.2.2.1 z4.2.2.2.2.2.2.2.2.2.2.2.1 z4.2.2.2.2.2.2.2.2.2.2.2.2.1 tc sc z4.2.2.2.2.2.2.2.2.2.2.2.2.2.1 z4.2.2.2.2.2.2.2.2.2.2.2.2.2.2.1 z4.2.2.2.2.2.2.2.2.2.2.2.2.2.2.2.1 hq6) (tb_V kw348 kw350 kv4 kw1 kw351) rfl rfl (by decide +kernel) ⟨Nat.le_of_ble_eq_true rfl, Nat.le_of_ble_eq_true rfl⟩ hK hP hD hS hA hE 13 rfl rfl [0, 1, 2, 3, 4, 5, 6, 7, 8, 9, 10, 11, 12, 13, 14, 15, 16, 17, 18, 19, 20, 21] [22, 23, 24, 25, 26, 27, 28, 29, 30, 31, 32, 33, 34, 35, 36, 37, 38, 39, 40, 41, 42, 43, 44, 45, 46, 47, 48, 49, 50, 51, 52, 53, 54, 55, 56, 57, 58, 59, 60, 61, 62, 63] rfl rfl rfl 64 ⟨rfl, rfl⟩ (by decide +kernel) (by decide +kernel) rfl rfl hl.1 (Nat.le_of_ble_eq_true rfl) ⟨Nat.zero_le _, Nat.zero_le _⟩ dX4_cycles_34 (fun H locs hP hD hS => ?_)
          refine lv_ldc (v := (-2000000000)) hx hb hown (hts _ kw333) dX4_cycles_37 ?_
          refine lv_icmp_eq (tgt := 45) hx hb dX4_cycles_39 (by decide) (fun c7 => ?_) (fun c7 => ?_)
          · replace h := (if_pos c7).symm.trans h
            refine lv_iinc (v := (z4.2.2.2.2.2.2.2.2.2.2.2.2.2.2.2.2.2 + 1)) (lv' := [(3, .int (z4.2.2.2.2.2.2.2.2.2.2.2.2.2.2.2.2.2 + 1)), (0, .ref aT), (1, .int p0), (2, .int z4.2.2.2.2.2.2.2.2.2.2.2.2.2.2.2.2.1)]) hx hb dX4_cycles_45 hl (k := 3) rfl rfl (by decide) rfl (fun ls hl => ?_)
            refine lv_goto (tgt := 28) hx hb dX4_cycles_48 (by decide) ?_
            rw [← Option.some.inj h] at h4
            exact ih4 (q6.2.1, q6.2.2.1, q6.2.2.2.1, q6.2.2.2.2.1, q6.2.2.2.2.2.1, q6.2.2.2.2.2.2.1, q6.2.2.2.2.2.2.2.1, q6.2.2.2.2.2.2.2.2.1, q6.2.2.2.2.2.2.2.2.2.1, q6.2.2.2.2.2.2.2.2.2.2.1, q6.2.2.2.2.2.2.2.2.2.2.2.1, q6.2.2.2.2.2.2.2.2.2.2.2.2.1, q6.2.2.2.2.2.2.2.2.2.2.2.2.2.1, q6.2.2.2.2.2.2.2.2.2.2.2.2.2.2.1, q6.2.2.2.2.2.2.2.2.2.2.2.2.2.2.2.1, q6.2.2.2.2.2.2.2.2.2.2.2.2.2.2.2.2, z4.2.2.2.2.2.2.2.2.2.2.2.2.2.2.2.2.1, (z4.2.2.2.2.2.2.2.2.2.2.2.2.2.2.2.2.2 + 1)) _ _ _ (lp_b h4) hP hD hS (lv_sub hl [1, 2, 3, 0] rfl)
          · replace h := (if_neg c7).symm.trans h
            refine lv_iinc (v := (z4.2.2.2.2.2.2.2.2.2.2.2.2.2.2.2.2.1 + 1)) (lv' := [(2, .int (z4.2.2.2.2.2.2.2.2.2.2.2.2.2.2.2.2.1 + 1)), (0, .ref aT), (1, .int p0), (3, .int z4.2.2.2.2.2.2.2.2.2.2.2.2.2.2.2.2.2)]) hx hb dX4_cycles_42 hl (k := 2) rfl rfl (by decide) rfl (fun ls hl => ?_)
            refine lv_iinc (v := (z4.2.2.2.2.2.2.2.2.2.2.2.2.2.2.2.2.2 + 1)) (lv' := [(3, .int (z4.2.2.2.2.2.2.2.2.2.2.2.2.2.2.2.2.2 + 1)), (2, .int (z4.2.2.2.2.2.2.2.2.2.2.2.2.2.2.2.2.1 + 1)), (0, .ref aT), (1, .int p0)]) hx hb dX4_cycles_45 hl (k := 3) rfl rfl (by decide) rfl (fun ls hl => ?_)
            refine lv_goto (tgt := 28) hx hb dX4_cycles_48 (by decide) ?_
            rw [← Option.some.inj h] at h4
            exact ih4 (q6.2.1, q6.2.2.1, q6.2.2.2.1, q6.2.2.2.2.1, q6.2.2.2.2.2.1, q6.2.2.2.2.2.2.1, q6.2.2.2.2.2.2.2.1, q6.2.2.2.2.2.2.2.2.1, q6.2.2.2.2.2.2.2.2.2.1, q6.2.2.2.2.2.2.2.2.2.2.1, q6.2.2.2.2.2.2.2.2.2.2.2.1, q6.2.2.2.2.2.2.2.2.2.2.2.2.1, q6.2.2.2.2.2.2.2.2.2.2.2.2.2.1, q6.2.2.2.2.2.2.2.2.2.2.2.2.2.2.1, q6.2.2.2.2.2.2.2.2.2.2.2.2.2.2.2.1, q6.2.2.2.2.2.2.2.2.2.2.2.2.2.2.2.2, (z4.2.2.2.2.2.2.2.2.2.2.2.2.2.2.2.2.1 + 1), (z4.2.2.2.2.2.2.2.2.2.2.2.2.2.2.2.2.2 + 1)) _ _ _ (lp_b h4) hP hD hS (lv_sub hl [2, 3, 1, 0] rfl)
    exact hL4 _ (un, tp, sh, de, co, ma, ru, fo, pu, ta, qu, im, su, rc, cn, so, 0, 0) _ _ _ hq4 hP hD hS (lv_sub hl [2, 3, 1, 0] rfl)
  · replace h := (if_pos c2).symm.trans h
    refine lv_ldc (v := (-2000000002)) hx hb hown (hts _ kw192) dX4_cycles_10 ?_
    rw [← Option.some.inj h]
    exact kri hx hb hr hlk rfl rfl hP hD hS hK dX4_cycles_12

/-! X4_cycleCount -/
def f_X4_cycleCount (cn : Int32) : Option (Int32) :=
  some cn

set_option maxHeartbeats 4000000 in
set_option maxRecDepth 100000 in
theorem c_X4_cycleCount (l : Launch) (G : va_G) (cI cJ cZ cO cA : ClassId) (e : Nat × Nat) (aT : Nat) (aS : Nat → Nat) (aH : Nat → Nat) (aE : Nat → Nat) (aX : Nat → Nat) (sz : Nat) (pr : Nat → Int32) (pu : Nat → Int32) (ta : Nat → Int32) (se : Nat → Int32) (qu : Nat → Int32) (im : Nat → Int32) (su : Nat → Int64) (tc : Int32) (sc : Int32) (rc : Int32) (cn : Int32) (so : Int32) {res : Int32} (hf : f_X4_cycleCount cn = some res) : MetI l yX4_cycleCount cX4_cycleCount 1 .int ({ frames := 0, cells := 0, slots := 0, locals := 0 } : Room) [.ref aT] G (ty5 cI cJ cZ cO cA) e (wT aT (aS 0) (aH 0) (aE 0) (aX 0) ++ (wS cI cJ aS pr pu ta se qu im su tc sc rc cn so ++ ([] : va_W))) (wT aT (aS 0) (aH 0) (aE 0) (aX 0) ++ (wS cI cJ aS pr pu ta se qu im su tc sc rc cn so ++ ([] : va_W))) sz res := by
  refine g_body (QQ := fun A => (qI G (ty5 cI cJ cZ cO cA) A (wT aT (aS 0) (aH 0) (aE 0) (aX 0) ++ (wS cI cJ aS pr pu ta se qu im su tc sc rc cn so ++ ([] : va_W))) res)) (own := RX4) (by decide) rfl (Nat.le_of_ble_eq_true rfl) ?_
  intro p ev s m below meth c A ls hx hb hr hml hown hts hlk hA hP hD hS hK hE hl
  have hl : lv_has ls 1 [(0, .ref aT)] := hl
  show W p l ev ({ frames := 0, cells := 0, slots := 0, locals := 0 } : Room) s m ([.ref aT] : List Value).toArray below meth c s.heap [] 0 0 (MQ below (qI G (ty5 cI cJ cZ cO cA) A (wT aT (aS 0) (aH 0) (aE 0) (aX 0) ++ (wS cI cJ aS pr pu ta se qu im su tc sc rc cn so ++ ([] : va_W))) res) ([.ref aT] : List Value).toArray s 0 0 A) (F0 m 0 ls [])
  have h := hf
  unfold f_X4_cycleCount at h
  refine lv_aload_n hx hb dX4_cycleCount_0 rfl (lv_at hl 0 rfl) ?_
  refine va_get (D := G) (ci := 4) (v := .ref (aS 0)) (C := RX4) (T := TX4) (N := 4) hx hb hts uX4 hown hK hP 0 rfl rfl 0 (by decide) (hts _ kw165) (fun _ h9 => h9) rfl dX4_cycleCount_1 ?_
  refine va_getN (D := G) (ci := 2) (v := .int cn) (C := RX2) (T := TX2) (N := 12) hx hb hts uX2 hown hK hP 1 rfl rfl 10 (by decide) (hE.nw nk48) (fun _ h9 => h9) rfl dX4_cycleCount_4 ?_
  rw [← Option.some.inj h]
  exact kri hx hb hr hlk rfl rfl hP hD hS hK dX4_cycleCount_7

/-! X4_fired -/
def f_X4_fired (pu : Nat → Int32) (tc : Int32) (p0 : Int32) : Option (Int32) :=
  (f_X4_isThruster tc p0).bind (fun q1 => if q1 = 0 then (some (-2000000001)) else (gd (ib p0 8) (some (pu p0.toNatClampNeg))))

set_option maxHeartbeats 4000000 in
set_option maxRecDepth 100000 in
theorem c_X4_fired (l : Launch) (G : va_G) (cI cJ cZ cO cA : ClassId) (e : Nat × Nat) (aT : Nat) (aS : Nat → Nat) (aH : Nat → Nat) (aE : Nat → Nat) (aX : Nat → Nat) (sz : Nat) (pr : Nat → Int32) (pu : Nat → Int32) (ta : Nat → Int32) (se : Nat → Int32) (qu : Nat → Int32) (im : Nat → Int32) (su : Nat → Int64) (tc : Int32) (sc : Int32) (rc : Int32) (cn : Int32) (so : Int32) (p0 : Int32) {res : Int32} (hf : f_X4_fired pu tc p0 = some res) : MetI l yX4_fired cX4_fired 2 .int ({ frames := 2, cells := 0, slots := 0, locals := 43 } : Room) [.ref aT, .int p0] G (ty5 cI cJ cZ cO cA) e (wT aT (aS 0) (aH 0) (aE 0) (aX 0) ++ (wS cI cJ aS pr pu ta se qu im su tc sc rc cn so ++ ([] : va_W))) (wT aT (aS 0) (aH 0) (aE 0) (aX 0) ++ (wS cI cJ aS pr pu ta se qu im su tc sc rc cn so ++ ([] : va_W))) sz res := by
  refine g_body (QQ := fun A => (qI G (ty5 cI cJ cZ cO cA) A (wT aT (aS 0) (aH 0) (aE 0) (aX 0) ++ (wS cI cJ aS pr pu ta se qu im su tc sc rc cn so ++ ([] : va_W))) res)) (own := RX4) (by decide) rfl (Nat.le_of_ble_eq_true rfl) ?_
  intro p ev s m below meth c A ls hx hb hr hml hown hts hlk hA hP hD hS hK hE hl
  have hl : lv_has ls 2 [(0, .ref aT), (1, .int p0)] := hl
  show W p l ev ({ frames := 2, cells := 0, slots := 0, locals := 43 } : Room) s m ([.ref aT, .int p0] : List Value).toArray below meth c s.heap [] 0 0 (MQ below (qI G (ty5 cI cJ cZ cO cA) A (wT aT (aS 0) (aH 0) (aE 0) (aX 0) ++ (wS cI cJ aS pr pu ta se qu im su tc sc rc cn so ++ ([] : va_W))) res) ([.ref aT, .int p0] : List Value).toArray s 0 0 A) (F0 m 0 ls [])
  have h := hf
  unfold f_X4_fired at h
  refine lv_aload_n hx hb dX4_fired_0 rfl (lv_at hl 0 rfl) ?_
  refine lv_iload_n hx hb dX4_fired_1 rfl (lv_at hl 1 rfl) ?_
  obtain ⟨q1, hq1, h⟩ := bd_s h
  refine kVi (n := 1) (C := RX4) (ws' := wT aT (aS 0) (aH 0) (aE 0) (aX 0) ++ (wS cI cJ aS pr pu ta se qu im su tc sc rc cn so ++ ([] : va_W))) (As := [.int p0]) (rest := []) hx hb hml hown hts (c_X4_isThruster l G cI cJ cZ cO cA e aT aS aH aE aX _ pr pu ta se qu im su tc sc rc cn so p0 hq1) (tb_V kw221 kw223 kv0 kw1 kw224) rfl rfl (by decide +kernel) ⟨Nat.le_of_ble_eq_true rfl, Nat.le_of_ble_eq_true rfl⟩ hK hP hD hS hA hE 0 rfl rfl [0, 1, 2, 3, 4, 5, 6, 7, 8] [] rfl rfl rfl 9 ⟨rfl, rfl⟩ (by decide +kernel) (by decide +kernel) rfl rfl hl.1 (Nat.le_of_ble_eq_true rfl) ⟨Nat.zero_le _, Nat.zero_le _⟩ dX4_fired_2 (fun H locs hP hD hS => ?_)
  refine lv_if_eq (tgt := 20) hx hb dX4_fired_5 (by decide) (fun c2 => ?_) (fun c2 => ?_)
  · replace h := (if_pos c2).symm.trans h
    refine lv_ldc (v := (-2000000001)) hx hb hown (hts _ kw188) dX4_fired_20 ?_
    rw [← Option.some.inj h]
    exact kri hx hb hr hlk rfl rfl hP hD hS hK dX4_fired_22
  · replace h := (if_neg c2).symm.trans h
    refine lv_aload_n hx hb dX4_fired_8 rfl (lv_at hl 0 rfl) ?_
    refine va_get (D := G) (ci := 4) (v := .ref (aS 0)) (C := RX4) (T := TX4) (N := 4) hx hb hts uX4 hown hK hP 0 rfl rfl 0 (by decide) (hts _ kw165) (fun _ h9 => h9) rfl dX4_fired_9 ?_
    refine va_getN (D := G) (ci := 2) (v := .ref (aS 2)) (C := RX2) (T := TX2) (N := 12) hx hb hts uX2 hown hK hP 1 rfl rfl 1 (by decide) (hE.nw nk30) (fun _ h9 => h9) rfl dX4_fired_12 ?_
    refine lv_iload_n hx hb dX4_fired_15 rfl (lv_at hl 1 rfl) ?_
    obtain ⟨g3, h⟩ := gd_s h
    refine va_iald hx hb hK hP 3 0 rfl rfl (ib_in g3) dX4_fired_16 ?_
    refine lv_goto (tgt := 22) hx hb dX4_fired_17 (by decide) ?_
    rw [← Option.some.inj h]
    exact kri hx hb hr hlk rfl rfl hP hD hS hK dX4_fired_22

/-! X4_impulse -/
def f_X4_impulse (im : Nat → Int32) (p0 : Int32) (p1 : Int32) : Option (Int32) :=
  (f_X4_isPart p1).bind (fun q1 => if q1 = 0 then (some (-2000000001)) else ((f_X4_isWithin p0 0 2).bind (fun q3 => if q3 = 0 then (some (-2000000002)) else ((f_X2_impulsePart im p0 p1).bind (fun q5 => some q5)))))

set_option maxHeartbeats 4000000 in
set_option maxRecDepth 100000 in
theorem c_X4_impulse (l : Launch) (G : va_G) (cI cJ cZ cO cA : ClassId) (e : Nat × Nat) (aT : Nat) (aS : Nat → Nat) (aH : Nat → Nat) (aE : Nat → Nat) (aX : Nat → Nat) (sz : Nat) (pr : Nat → Int32) (pu : Nat → Int32) (ta : Nat → Int32) (se : Nat → Int32) (qu : Nat → Int32) (im : Nat → Int32) (su : Nat → Int64) (tc : Int32) (sc : Int32) (rc : Int32) (cn : Int32) (so : Int32) (p0 : Int32) (p1 : Int32) {res : Int32} (hf : f_X4_impulse im p0 p1 = some res) : MetI l yX4_impulse cX4_impulse 3 .int ({ frames := 2, cells := 0, slots := 0, locals := 42 } : Room) [.ref aT, .int p0, .int p1] G (ty5 cI cJ cZ cO cA) e (wT aT (aS 0) (aH 0) (aE 0) (aX 0) ++ (wS cI cJ aS pr pu ta se qu im su tc sc rc cn so ++ ([] : va_W))) (wT aT (aS 0) (aH 0) (aE 0) (aX 0) ++ (wS cI cJ aS pr pu ta se qu im su tc sc rc cn so ++ ([] : va_W))) sz res := by
  refine g_body (QQ := fun A => (qI G (ty5 cI cJ cZ cO cA) A (wT aT (aS 0) (aH 0) (aE 0) (aX 0) ++ (wS cI cJ aS pr pu ta se qu im su tc sc rc cn so ++ ([] : va_W))) res)) (own := RX4) (by decide) rfl (Nat.le_of_ble_eq_true rfl) ?_
  intro p ev s m below meth c A ls hx hb hr hml hown hts hlk hA hP hD hS hK hE hl
  have hl : lv_has ls 3 [(0, .ref aT), (1, .int p0), (2, .int p1)] := hl
  show W p l ev ({ frames := 2, cells := 0, slots := 0, locals := 42 } : Room) s m ([.ref aT, .int p0, .int p1] : List Value).toArray below meth c s.heap [] 0 0 (MQ below (qI G (ty5 cI cJ cZ cO cA) A (wT aT (aS 0) (aH 0) (aE 0) (aX 0) ++ (wS cI cJ aS pr pu ta se qu im su tc sc rc cn so ++ ([] : va_W))) res) ([.ref aT, .int p0, .int p1] : List Value).toArray s 0 0 A) (F0 m 0 ls [])
  have h := hf
  unfold f_X4_impulse at h
  refine lv_iload_n hx hb dX4_impulse_0 rfl (lv_at hl 2 rfl) ?_
  obtain ⟨q1, hq1, h⟩ := bd_s h
  refine kSi (n := 1) (As := [.int p1]) (rest := []) hx hb hml hown hts (c_X4_isPart l G cI cJ cZ cO cA e _ p1 hq1) (tb_S kw396 kw397 kw1 kw398) rfl rfl (by decide +kernel) ⟨Nat.le_of_ble_eq_true rfl, Nat.le_of_ble_eq_true rfl⟩ hK hP hD hS hA hE rfl rfl hl.1 (Nat.le_of_ble_eq_true rfl) ⟨Nat.zero_le _, Nat.zero_le _⟩ dX4_impulse_1 (fun H locs hP hD hS => ?_)
  refine lv_if_ne (tgt := 10) hx hb dX4_impulse_4 (by decide) (fun c2 => ?_) (fun c2 => ?_)
  · replace h := (if_neg c2).symm.trans h
    refine lv_iload_n hx hb dX4_impulse_10 rfl (lv_at hl 1 rfl) ?_
    refine lv_iconst (v := 0) hx hb dX4_impulse_11 (by decide) ?_
    refine lv_iconst (v := 2) hx hb dX4_impulse_12 (by decide) ?_
    obtain ⟨q3, hq3, h⟩ := bd_s h
    refine kSi (n := 3) (As := [.int p0, .int 0, .int 2]) (rest := []) hx hb hml hown hts (c_X4_isWithin l G cI cJ cZ cO cA e _ p0 0 2 hq3) (tb_S kw185 kw186 kw1 kw187) rfl rfl (by decide +kernel) ⟨Nat.le_of_ble_eq_true rfl, Nat.le_of_ble_eq_true rfl⟩ hK hP hD hS hA hE rfl rfl hl.1 (Nat.le_of_ble_eq_true rfl) ⟨Nat.zero_le _, Nat.zero_le _⟩ dX4_impulse_13 (fun H locs hP hD hS => ?_)
    refine lv_if_ne (tgt := 22) hx hb dX4_impulse_16 (by decide) (fun c4 => ?_) (fun c4 => ?_)
    · replace h := (if_neg c4).symm.trans h
      refine lv_aload_n hx hb dX4_impulse_22 rfl (lv_at hl 0 rfl) ?_
      refine va_get (D := G) (ci := 4) (v := .ref (aS 0)) (C := RX4) (T := TX4) (N := 4) hx hb hts uX4 hown hK hP 0 rfl rfl 0 (by decide) (hts _ kw165) (fun _ h9 => h9) rfl dX4_impulse_23 ?_
      refine lv_iload_n hx hb dX4_impulse_26 rfl (lv_at hl 1 rfl) ?_
      refine lv_iload_n hx hb dX4_impulse_27 rfl (lv_at hl 2 rfl) ?_
      obtain ⟨q5, hq5, h⟩ := bd_s h
      refine kVi (n := 2) (C := RX2) (ws' := wT aT (aS 0) (aH 0) (aE 0) (aX 0) ++ (wS cI cJ aS pr pu ta se qu im su tc sc rc cn so ++ ([] : va_W))) (As := [.int p0, .int p1]) (rest := []) hx hb hml hown hts (c_X2_impulsePart l G cI cJ cZ cO cA e aS _ pr pu ta se qu im su tc sc rc cn so p0 p1 hq5) (tb_V kw368 kw357 kw358 kw2 kw359) rfl rfl (by decide +kernel) ⟨Nat.le_of_ble_eq_true rfl, Nat.le_of_ble_eq_true rfl⟩ hK hP hD hS hA hE 1 rfl rfl [1, 2, 3, 4, 5, 6, 7, 8] [0] rfl rfl rfl 9 ⟨rfl, rfl⟩ (by decide +kernel) (by decide +kernel) rfl rfl hl.1 (Nat.le_of_ble_eq_true rfl) ⟨Nat.zero_le _, Nat.zero_le _⟩ dX4_impulse_28 (fun H locs hP hD hS => ?_)
      rw [← Option.some.inj h]
      exact kri hx hb hr hlk rfl rfl hP hD hS hK dX4_impulse_31
    · replace h := (if_pos c4).symm.trans h
      refine lv_ldc (v := (-2000000002)) hx hb hown (hts _ kw192) dX4_impulse_19 ?_
      rw [← Option.some.inj h]
      exact kri hx hb hr hlk rfl rfl hP hD hS hK dX4_impulse_21
  · replace h := (if_pos c2).symm.trans h
    refine lv_ldc (v := (-2000000001)) hx hb hown (hts _ kw188) dX4_impulse_7 ?_
    rw [← Option.some.inj h]
    exact kri hx hb hr hlk rfl rfl hP hD hS hK dX4_impulse_9

/-! X4_total -/
def f_X4_total (su : Nat → Int64) (p0 : Int32) : Option (Int64) :=
  (f_X4_isPart p0).bind (fun q1 => if q1 = 0 then (some (-2000000001)) else (gd (ib p0 3) (some (su p0.toNatClampNeg))))

set_option maxHeartbeats 4000000 in
set_option maxRecDepth 100000 in
theorem c_X4_total (l : Launch) (G : va_G) (cI cJ cZ cO cA : ClassId) (e : Nat × Nat) (aT : Nat) (aS : Nat → Nat) (aH : Nat → Nat) (aE : Nat → Nat) (aX : Nat → Nat) (sz : Nat) (pr : Nat → Int32) (pu : Nat → Int32) (ta : Nat → Int32) (se : Nat → Int32) (qu : Nat → Int32) (im : Nat → Int32) (su : Nat → Int64) (tc : Int32) (sc : Int32) (rc : Int32) (cn : Int32) (so : Int32) (p0 : Int32) {res : Int64} (hf : f_X4_total su p0 = some res) : MetL l yX4_total cX4_total 2 ({ frames := 2, cells := 0, slots := 0, locals := 42 } : Room) [.ref aT, .int p0] G (ty5 cI cJ cZ cO cA) e (wT aT (aS 0) (aH 0) (aE 0) (aX 0) ++ (wS cI cJ aS pr pu ta se qu im su tc sc rc cn so ++ ([] : va_W))) (wT aT (aS 0) (aH 0) (aE 0) (aX 0) ++ (wS cI cJ aS pr pu ta se qu im su tc sc rc cn so ++ ([] : va_W))) sz res := by
  refine g_body (QQ := fun A => (qL G (ty5 cI cJ cZ cO cA) A (wT aT (aS 0) (aH 0) (aE 0) (aX 0) ++ (wS cI cJ aS pr pu ta se qu im su tc sc rc cn so ++ ([] : va_W))) res)) (own := RX4) (by decide) rfl (Nat.le_of_ble_eq_true rfl) ?_
  intro p ev s m below meth c A ls hx hb hr hml hown hts hlk hA hP hD hS hK hE hl
  have hl : lv_has ls 2 [(0, .ref aT), (1, .int p0)] := hl
  show W p l ev ({ frames := 2, cells := 0, slots := 0, locals := 42 } : Room) s m ([.ref aT, .int p0] : List Value).toArray below meth c s.heap [] 0 0 (MQ below (qL G (ty5 cI cJ cZ cO cA) A (wT aT (aS 0) (aH 0) (aE 0) (aX 0) ++ (wS cI cJ aS pr pu ta se qu im su tc sc rc cn so ++ ([] : va_W))) res) ([.ref aT, .int p0] : List Value).toArray s 0 0 A) (F0 m 0 ls [])
  have h := hf
  unfold f_X4_total at h
  refine lv_iload_n hx hb dX4_total_0 rfl (lv_at hl 1 rfl) ?_
  obtain ⟨q1, hq1, h⟩ := bd_s h
  refine kSi (n := 1) (As := [.int p0]) (rest := []) hx hb hml hown hts (c_X4_isPart l G cI cJ cZ cO cA e _ p0 hq1) (tb_S kw396 kw397 kw1 kw398) rfl rfl (by decide +kernel) ⟨Nat.le_of_ble_eq_true rfl, Nat.le_of_ble_eq_true rfl⟩ hK hP hD hS hA hE rfl rfl hl.1 (Nat.le_of_ble_eq_true rfl) ⟨Nat.zero_le _, Nat.zero_le _⟩ dX4_total_1 (fun H locs hP hD hS => ?_)
  refine lv_if_eq (tgt := 19) hx hb dX4_total_4 (by decide) (fun c2 => ?_) (fun c2 => ?_)
  · replace h := (if_pos c2).symm.trans h
    refine lv_ldc2 (v := (-2000000001)) hx hb hown (hts _ kw519) dX4_total_19 ?_
    rw [← Option.some.inj h]
    exact krl hx hb hr hlk rfl hP hD hS hK dX4_total_22
  · replace h := (if_neg c2).symm.trans h
    refine lv_aload_n hx hb dX4_total_7 rfl (lv_at hl 0 rfl) ?_
    refine va_get (D := G) (ci := 4) (v := .ref (aS 0)) (C := RX4) (T := TX4) (N := 4) hx hb hts uX4 hown hK hP 0 rfl rfl 0 (by decide) (hts _ kw165) (fun _ h9 => h9) rfl dX4_total_8 ?_
    refine va_getN (D := G) (ci := 2) (v := .ref (aS 7)) (C := RX2) (T := TX2) (N := 12) hx hb hts uX2 hown hK hP 1 rfl rfl 6 (by decide) (hE.nw nk39) (fun _ h9 => h9) rfl dX4_total_11 ?_
    refine lv_iload_n hx hb dX4_total_14 rfl (lv_at hl 1 rfl) ?_
    obtain ⟨g3, h⟩ := gd_s h
    refine va_lald hx hb hK hP 8 1 rfl rfl (ib_in g3) dX4_total_15 ?_
    refine lv_goto (tgt := 22) hx hb dX4_total_16 (by decide) ?_
    rw [← Option.some.inj h]
    exact krl hx hb hr hlk rfl hP hD hS hK dX4_total_22

/-! X2_wasSound -/
def f_X2_wasSound (so : Int32) (p0 : Int32) : Option (Int32) :=
  if ((so >>> (p0 &&& 31)) &&& 1) = 1 then (some 1) else (some 0)

set_option maxHeartbeats 4000000 in
set_option maxRecDepth 100000 in
theorem c_X2_wasSound (l : Launch) (G : va_G) (cI cJ cZ cO cA : ClassId) (e : Nat × Nat) (aS : Nat → Nat) (sz : Nat) (pr : Nat → Int32) (pu : Nat → Int32) (ta : Nat → Int32) (se : Nat → Int32) (qu : Nat → Int32) (im : Nat → Int32) (su : Nat → Int64) (tc : Int32) (sc : Int32) (rc : Int32) (cn : Int32) (so : Int32) (p0 : Int32) {res : Int32} (hf : f_X2_wasSound so p0 = some res) : MetI l yX2_wasSound cX2_wasSound 2 .boolean ({ frames := 0, cells := 0, slots := 0, locals := 0 } : Room) [.ref (aS 0), .int p0] G (ty5 cI cJ cZ cO cA) e (wS cI cJ aS pr pu ta se qu im su tc sc rc cn so ++ ([] : va_W)) (wS cI cJ aS pr pu ta se qu im su tc sc rc cn so ++ ([] : va_W)) sz res := by
  refine g_body (QQ := fun A => (qI G (ty5 cI cJ cZ cO cA) A (wS cI cJ aS pr pu ta se qu im su tc sc rc cn so ++ ([] : va_W)) res)) (own := RX2) (by decide) rfl (Nat.le_of_ble_eq_true rfl) ?_
  intro p ev s m below meth c A ls hx hb hr hml hown hts hlk hA hP hD hS hK hE hl
  have hl : lv_has ls 2 [(0, .ref (aS 0)), (1, .int p0)] := hl
  show W p l ev ({ frames := 0, cells := 0, slots := 0, locals := 0 } : Room) s m ([.ref (aS 0), .int p0] : List Value).toArray below meth c s.heap [] 0 0 (MQ below (qI G (ty5 cI cJ cZ cO cA) A (wS cI cJ aS pr pu ta se qu im su tc sc rc cn so ++ ([] : va_W)) res) ([.ref (aS 0), .int p0] : List Value).toArray s 0 0 A) (F0 m 0 ls [])
  have h := hf
  unfold f_X2_wasSound at h
  refine lv_aload_n hx hb dX2_wasSound_0 rfl (lv_at hl 0 rfl) ?_
  refine va_get (D := G) (ci := 2) (v := .int so) (C := RX2) (T := TX2) (N := 12) hx hb hts uX2 hown hK hP 0 rfl rfl 11 (by decide) (hts _ kw49) (fun _ h9 => h9) rfl dX2_wasSound_1 ?_
  refine lv_iload_n hx hb dX2_wasSound_4 rfl (lv_at hl 1 rfl) ?_
  refine lv_ishr hx hb dX2_wasSound_5 ?_
  refine lv_iconst (v := 1) hx hb dX2_wasSound_6 (by decide) ?_
  refine lv_iand hx hb dX2_wasSound_7 ?_
  refine lv_iconst (v := 1) hx hb dX2_wasSound_8 (by decide) ?_
  refine lv_icmp_ne (tgt := 16) hx hb dX2_wasSound_9 (by decide) (fun c1 => ?_) (fun c1 => ?_)
  · replace h := (if_neg c1).symm.trans h
    refine lv_iconst (v := 0) hx hb dX2_wasSound_16 (by decide) ?_
    rw [← Option.some.inj h]
    exact kri hx hb hr hlk rfl rfl hP hD hS hK dX2_wasSound_17
  · replace h := (if_pos c1).symm.trans h
    refine lv_iconst (v := 1) hx hb dX2_wasSound_12 (by decide) ?_
    refine lv_goto (tgt := 17) hx hb dX2_wasSound_13 (by decide) ?_
    rw [← Option.some.inj h]
    exact kri hx hb hr hlk rfl rfl hP hD hS hK dX2_wasSound_17

/-! X2_isImpulse -/
def f_X2_isImpulse (pr : Nat → Int32) (p0 : Int32) (p1 : Int32) (p2 : Int32) (p3 : Int32) (p4 : Int32) : Option (Int32) :=
  (f_X2_unitPart pr p0 0).bind (fun q1 => if (p1 * q1) = p2 then ((f_X2_unitPart pr p0 1).bind (fun q3 => if (p1 * q3) = p3 then ((f_X2_unitPart pr p0 2).bind (fun q5 => if (p1 * q5) = p4 then (some 1) else (some 0))) else (some 0))) else (some 0))

set_option maxHeartbeats 4000000 in
set_option maxRecDepth 100000 in
theorem c_X2_isImpulse (l : Launch) (G : va_G) (cI cJ cZ cO cA : ClassId) (e : Nat × Nat) (aS : Nat → Nat) (sz : Nat) (pr : Nat → Int32) (pu : Nat → Int32) (ta : Nat → Int32) (se : Nat → Int32) (qu : Nat → Int32) (im : Nat → Int32) (su : Nat → Int64) (tc : Int32) (sc : Int32) (rc : Int32) (cn : Int32) (so : Int32) (p0 : Int32) (p1 : Int32) (p2 : Int32) (p3 : Int32) (p4 : Int32) {res : Int32} (hf : f_X2_isImpulse pr p0 p1 p2 p3 p4 = some res) : MetI l yX2_isImpulse cX2_isImpulse 6 .boolean ({ frames := 2, cells := 0, slots := 0, locals := 47 } : Room) [.ref (aS 0), .int p0, .int p1, .int p2, .int p3, .int p4] G (ty5 cI cJ cZ cO cA) e (wS cI cJ aS pr pu ta se qu im su tc sc rc cn so ++ ([] : va_W)) (wS cI cJ aS pr pu ta se qu im su tc sc rc cn so ++ ([] : va_W)) sz res := by
  refine g_body (QQ := fun A => (qI G (ty5 cI cJ cZ cO cA) A (wS cI cJ aS pr pu ta se qu im su tc sc rc cn so ++ ([] : va_W)) res)) (own := RX2) (by decide) rfl (Nat.le_of_ble_eq_true rfl) ?_
  intro p ev s m below meth c A ls hx hb hr hml hown hts hlk hA hP hD hS hK hE hl
  have hl : lv_has ls 6 [(0, .ref (aS 0)), (1, .int p0), (2, .int p1), (3, .int p2), (4, .int p3), (5, .int p4)] := hl
  show W p l ev ({ frames := 2, cells := 0, slots := 0, locals := 47 } : Room) s m ([.ref (aS 0), .int p0, .int p1, .int p2, .int p3, .int p4] : List Value).toArray below meth c s.heap [] 0 0 (MQ below (qI G (ty5 cI cJ cZ cO cA) A (wS cI cJ aS pr pu ta se qu im su tc sc rc cn so ++ ([] : va_W)) res) ([.ref (aS 0), .int p0, .int p1, .int p2, .int p3, .int p4] : List Value).toArray s 0 0 A) (F0 m 0 ls [])
  have h := hf
  unfold f_X2_isImpulse at h
  refine lv_iload_n hx hb dX2_isImpulse_0 rfl (lv_at hl 2 rfl) ?_
  refine lv_aload_n hx hb dX2_isImpulse_1 rfl (lv_at hl 0 rfl) ?_
  refine lv_iload_n hx hb dX2_isImpulse_2 rfl (lv_at hl 1 rfl) ?_
  refine lv_iconst (v := 0) hx hb dX2_isImpulse_3 (by decide) ?_
  obtain ⟨q1, hq1, h⟩ := bd_s h
  refine kVi (n := 2) (C := RX2) (ws' := wS cI cJ aS pr pu ta se qu im su tc sc rc cn so ++ ([] : va_W)) (As := [.int p0, .int 0]) (rest := [.int p1]) hx hb hml hown hts (c_X2_unitPart l G cI cJ cZ cO cA e aS _ pr pu ta se qu im su tc sc rc cn so p0 0 hq1) (tb_V kw363 kw250 kw251 kw2 kw252) rfl rfl (by decide +kernel) ⟨Nat.le_of_ble_eq_true rfl, Nat.le_of_ble_eq_true rfl⟩ hK hP hD hS hA hE 0 rfl rfl [0, 1, 2, 3, 4, 5, 6, 7] [] rfl rfl rfl 8 ⟨rfl, rfl⟩ (by decide +kernel) (by decide +kernel) rfl rfl hl.1 (Nat.le_of_ble_eq_true rfl) ⟨Nat.zero_le _, Nat.zero_le _⟩ dX2_isImpulse_4 (fun H locs hP hD hS => ?_)
  refine lv_imul hx hb dX2_isImpulse_7 ?_
  refine lv_iload_n hx hb dX2_isImpulse_8 rfl (lv_at hl 3 rfl) ?_
  refine lv_icmp_ne (tgt := 42) hx hb dX2_isImpulse_9 (by decide) (fun c2 => ?_) (fun c2 => ?_)
  · replace h := (if_neg c2).symm.trans h
    refine lv_iconst (v := 0) hx hb dX2_isImpulse_42 (by decide) ?_
    rw [← Option.some.inj h]
    exact kri hx hb hr hlk rfl rfl hP hD hS hK dX2_isImpulse_43
  · replace h := (if_pos c2).symm.trans h
    refine lv_iload_n hx hb dX2_isImpulse_12 rfl (lv_at hl 2 rfl) ?_
    refine lv_aload_n hx hb dX2_isImpulse_13 rfl (lv_at hl 0 rfl) ?_
    refine lv_iload_n hx hb dX2_isImpulse_14 rfl (lv_at hl 1 rfl) ?_
    refine lv_iconst (v := 1) hx hb dX2_isImpulse_15 (by decide) ?_
    obtain ⟨q3, hq3, h⟩ := bd_s h
    refine kVi (n := 2) (C := RX2) (ws' := wS cI cJ aS pr pu ta se qu im su tc sc rc cn so ++ ([] : va_W)) (As := [.int p0, .int 1]) (rest := [.int p1]) hx hb hml hown hts (c_X2_unitPart l G cI cJ cZ cO cA e aS _ pr pu ta se qu im su tc sc rc cn so p0 1 hq3) (tb_V kw363 kw250 kw251 kw2 kw252) rfl rfl (by decide +kernel) ⟨Nat.le_of_ble_eq_true rfl, Nat.le_of_ble_eq_true rfl⟩ hK hP hD hS hA hE 0 rfl rfl [0, 1, 2, 3, 4, 5, 6, 7] [] rfl rfl rfl 8 ⟨rfl, rfl⟩ (by decide +kernel) (by decide +kernel) rfl rfl hl.1 (Nat.le_of_ble_eq_true rfl) ⟨Nat.zero_le _, Nat.zero_le _⟩ dX2_isImpulse_16 (fun H locs hP hD hS => ?_)
    refine lv_imul hx hb dX2_isImpulse_19 ?_
    refine lv_iload hx hb dX2_isImpulse_20 (lv_at hl 4 rfl) ?_
    refine lv_icmp_ne (tgt := 42) hx hb dX2_isImpulse_22 (by decide) (fun c4 => ?_) (fun c4 => ?_)
    · replace h := (if_neg c4).symm.trans h
      refine lv_iconst (v := 0) hx hb dX2_isImpulse_42 (by decide) ?_
      rw [← Option.some.inj h]
      exact kri hx hb hr hlk rfl rfl hP hD hS hK dX2_isImpulse_43
    · replace h := (if_pos c4).symm.trans h
      refine lv_iload_n hx hb dX2_isImpulse_25 rfl (lv_at hl 2 rfl) ?_
      refine lv_aload_n hx hb dX2_isImpulse_26 rfl (lv_at hl 0 rfl) ?_
      refine lv_iload_n hx hb dX2_isImpulse_27 rfl (lv_at hl 1 rfl) ?_
      refine lv_iconst (v := 2) hx hb dX2_isImpulse_28 (by decide) ?_
      obtain ⟨q5, hq5, h⟩ := bd_s h
      refine kVi (n := 2) (C := RX2) (ws' := wS cI cJ aS pr pu ta se qu im su tc sc rc cn so ++ ([] : va_W)) (As := [.int p0, .int 2]) (rest := [.int p1]) hx hb hml hown hts (c_X2_unitPart l G cI cJ cZ cO cA e aS _ pr pu ta se qu im su tc sc rc cn so p0 2 hq5) (tb_V kw363 kw250 kw251 kw2 kw252) rfl rfl (by decide +kernel) ⟨Nat.le_of_ble_eq_true rfl, Nat.le_of_ble_eq_true rfl⟩ hK hP hD hS hA hE 0 rfl rfl [0, 1, 2, 3, 4, 5, 6, 7] [] rfl rfl rfl 8 ⟨rfl, rfl⟩ (by decide +kernel) (by decide +kernel) rfl rfl hl.1 (Nat.le_of_ble_eq_true rfl) ⟨Nat.zero_le _, Nat.zero_le _⟩ dX2_isImpulse_29 (fun H locs hP hD hS => ?_)
      refine lv_imul hx hb dX2_isImpulse_32 ?_
      refine lv_iload hx hb dX2_isImpulse_33 (lv_at hl 5 rfl) ?_
      refine lv_icmp_ne (tgt := 42) hx hb dX2_isImpulse_35 (by decide) (fun c6 => ?_) (fun c6 => ?_)
      · replace h := (if_neg c6).symm.trans h
        refine lv_iconst (v := 0) hx hb dX2_isImpulse_42 (by decide) ?_
        rw [← Option.some.inj h]
        exact kri hx hb hr hlk rfl rfl hP hD hS hK dX2_isImpulse_43
      · replace h := (if_pos c6).symm.trans h
        refine lv_iconst (v := 1) hx hb dX2_isImpulse_38 (by decide) ?_
        refine lv_goto (tgt := 43) hx hb dX2_isImpulse_39 (by decide) ?_
        rw [← Option.some.inj h]
        exact kri hx hb hr hlk rfl rfl hP hD hS hK dX2_isImpulse_43

/-! X2_firstSilent -/
def f_X2_firstSilent_b3 (pr : Nat → Int32) (pu : Nat → Int32) (tc : Int32) (so : Int32) (v1 : Int32) (v2 : Int32) (v3 : Int32) (z1 : Int32) : Option ((Int32) ⊕ ((Int32) ⊕ (Unit))) :=
  if tc ≤ z1 then (some (Sum.inr (Sum.inr ()))) else ((f_X2_wasSound so z1).bind (fun q3 => if q3 = 0 then (some (Sum.inl (z1 + 1))) else (gd (ib z1 8) (if (pu z1.toNatClampNeg) ≤ 0 then (some (Sum.inl (z1 + 1))) else (gd (ib z1 8) ((f_X2_isImpulse pr z1 (-(pu z1.toNatClampNeg)) v1 v2 v3).bind (fun q8 => if q8 = 0 then (some (Sum.inl (z1 + 1))) else (some (Sum.inr (Sum.inl z1))))))))))
def f_X2_firstSilent (pr : Nat → Int32) (pu : Nat → Int32) (tc : Int32) (so : Int32) (p0 : Int32) (p1 : Int32) (p2 : Int32) : Option (Int32) :=
  (lp (f_X2_firstSilent_b3 pr pu tc so p0 p1 p2) 1000 0).bind (fun q1 => Sum.elim (fun t1 => some t1) (fun t1 => some (-1)) q1)

set_option maxHeartbeats 4000000 in
set_option maxRecDepth 100000 in
theorem c_X2_firstSilent (l : Launch) (G : va_G) (cI cJ cZ cO cA : ClassId) (e : Nat × Nat) (aS : Nat → Nat) (sz : Nat) (pr : Nat → Int32) (pu : Nat → Int32) (ta : Nat → Int32) (se : Nat → Int32) (qu : Nat → Int32) (im : Nat → Int32) (su : Nat → Int64) (tc : Int32) (sc : Int32) (rc : Int32) (cn : Int32) (so : Int32) (p0 : Int32) (p1 : Int32) (p2 : Int32) {res : Int32} (hf : f_X2_firstSilent pr pu tc so p0 p1 p2 = some res) : MetI l yX2_firstSilent cX2_firstSilent 5 .int ({ frames := 3, cells := 0, slots := 0, locals := 72 } : Room) [.ref (aS 0), .int p0, .int p1, .int p2] G (ty5 cI cJ cZ cO cA) e (wS cI cJ aS pr pu ta se qu im su tc sc rc cn so ++ ([] : va_W)) (wS cI cJ aS pr pu ta se qu im su tc sc rc cn so ++ ([] : va_W)) sz res := by
  refine g_body (QQ := fun A => (qI G (ty5 cI cJ cZ cO cA) A (wS cI cJ aS pr pu ta se qu im su tc sc rc cn so ++ ([] : va_W)) res)) (own := RX2) (by decide) rfl (Nat.le_of_ble_eq_true rfl) ?_
  intro p ev s m below meth c A ls hx hb hr hml hown hts hlk hA hP hD hS hK hE hl
  have hl : lv_has ls 5 [(0, .ref (aS 0)), (1, .int p0), (2, .int p1), (3, .int p2)] := hl
  show W p l ev ({ frames := 3, cells := 0, slots := 0, locals := 72 } : Room) s m ([.ref (aS 0), .int p0, .int p1, .int p2] : List Value).toArray below meth c s.heap [] 0 0 (MQ below (qI G (ty5 cI cJ cZ cO cA) A (wS cI cJ aS pr pu ta se qu im su tc sc rc cn so ++ ([] : va_W)) res) ([.ref (aS 0), .int p0, .int p1, .int p2] : List Value).toArray s 0 0 A) (F0 m 0 ls [])
  have h := hf
  unfold f_X2_firstSilent at h
  refine lv_iconst (v := 0) hx hb dX2_firstSilent_0 (by decide) ?_
  refine lv_istore (lv' := [(4, .int 0), (0, .ref (aS 0)), (1, .int p0), (2, .int p1), (3, .int p2)]) hx hb dX2_firstSilent_1 hl (by decide) rfl (fun ls hl => ?_)
  obtain ⟨q1, hq1, h⟩ := bd_s h
  have hX1_0 : ∀ (t1 : Int32) (H : Heap) (locs : List Loc) (ls : Array Slot), Sum.inl t1 = q1 → va_P G vwCl (wS cI cJ aS pr pu ta se qu im su tc sc rc cn so ++ ([] : va_W)) H → va_D A (wS cI cJ aS pr pu ta se qu im su tc sc rc cn so ++ ([] : va_W)) → va_S A s.heap H locs → lv_has ls 5 [(4, .int t1)] → W p l ev ({ frames := 3, cells := 0, slots := 0, locals := 72 } : Room) s m ([.ref (aS 0), .int p0, .int p1, .int p2] : List Value).toArray below meth c H locs 0 0 (MQ below (qI G (ty5 cI cJ cZ cO cA) A (wS cI cJ aS pr pu ta se qu im su tc sc rc cn so ++ ([] : va_W)) res) ([.ref (aS 0), .int p0, .int p1, .int p2] : List Value).toArray s 0 0 A) (F0 m 51 ls []) := by
    intro t1 H locs ls e1 hP hD hS hl
    rw [← e1] at h
    replace h := se_l h
    refine lv_iload hx hb dX2_firstSilent_51 (lv_at hl 0 rfl) ?_
    rw [← Option.some.inj h]
    exact kri hx hb hr hlk rfl rfl hP hD hS hK dX2_firstSilent_53
  have hX1_1 : ∀ (t1 : Unit) (H : Heap) (locs : List Loc) (ls : Array Slot), Sum.inr t1 = q1 → va_P G vwCl (wS cI cJ aS pr pu ta se qu im su tc sc rc cn so ++ ([] : va_W)) H → va_D A (wS cI cJ aS pr pu ta se qu im su tc sc rc cn so ++ ([] : va_W)) → va_S A s.heap H locs → lv_has ls 5 [] → W p l ev ({ frames := 3, cells := 0, slots := 0, locals := 72 } : Room) s m ([.ref (aS 0), .int p0, .int p1, .int p2] : List Value).toArray below meth c H locs 0 0 (MQ below (qI G (ty5 cI cJ cZ cO cA) A (wS cI cJ aS pr pu ta se qu im su tc sc rc cn so ++ ([] : va_W)) res) ([.ref (aS 0), .int p0, .int p1, .int p2] : List Value).toArray s 0 0 A) (F0 m 60 ls []) := by
    intro t1 H locs ls e1 hP hD hS hl
    rw [← e1] at h
    replace h := se_r h
    refine lv_iconst (v := (-1)) hx hb dX2_firstSilent_60 (by decide) ?_
    rw [← Option.some.inj h]
    exact kri hx hb hr hlk rfl rfl hP hD hS hK dX2_firstSilent_61
  have hL1 : ∀ (n : Nat) (z1 : Int32) (H : Heap) (locs : List Loc) (ls : Array Slot), lp (f_X2_firstSilent_b3 pr pu tc so p0 p1 p2) n z1 = some q1 → va_P G vwCl (wS cI cJ aS pr pu ta se qu im su tc sc rc cn so ++ ([] : va_W)) H → va_D A (wS cI cJ aS pr pu ta se qu im su tc sc rc cn so ++ ([] : va_W)) → va_S A s.heap H locs → lv_has ls 5 [(0, .ref (aS 0)), (1, .int p0), (2, .int p1), (3, .int p2), (4, .int z1)] → W p l ev ({ frames := 3, cells := 0, slots := 0, locals := 72 } : Room) s m ([.ref (aS 0), .int p0, .int p1, .int p2] : List Value).toArray below meth c H locs 0 0 (MQ below (qI G (ty5 cI cJ cZ cO cA) A (wS cI cJ aS pr pu ta se qu im su tc sc rc cn so ++ ([] : va_W)) res) ([.ref (aS 0), .int p0, .int p1, .int p2] : List Value).toArray s 0 0 A) (F0 m 3 ls []) := by
    intro n
    induction n with
    | zero => intro z1 H locs ls h; cases h
    | succ n ih1 =>
      intro z1 H locs ls h hP hD hS hl
      obtain ⟨o1, h, h1⟩ := lp_s h
      unfold f_X2_firstSilent_b3 at h
      refine lv_iload hx hb dX2_firstSilent_3 (lv_at hl 4 rfl) ?_
      refine lv_aload_n hx hb dX2_firstSilent_5 rfl (lv_at hl 0 rfl) ?_
      refine va_get (D := G) (ci := 2) (v := .int tc) (C := RX2) (T := TX2) (N := 12) hx hb hts uX2 hown hK hP 0 rfl rfl 7 (by decide) (hts _ kw42) (fun _ h9 => h9) rfl dX2_firstSilent_6 ?_
      refine lv_icmp_ge (tgt := 60) hx hb dX2_firstSilent_9 (by decide) (fun c2 => ?_) (fun c2 => ?_)
      · replace h := (if_pos c2).symm.trans h
        rw [← Option.some.inj h] at h1
        exact hX1_1 () _ _ _ (lp_x h1) hP hD hS (lv_sub hl [] rfl)
      · replace h := (if_neg c2).symm.trans h
        refine lv_aload_n hx hb dX2_firstSilent_12 rfl (lv_at hl 0 rfl) ?_
        refine lv_iload hx hb dX2_firstSilent_13 (lv_at hl 4 rfl) ?_
        obtain ⟨q3, hq3, h⟩ := bd_s h
        refine kVi (n := 1) (C := RX2) (ws' := wS cI cJ aS pr pu ta se qu im su tc sc rc cn so ++ ([] : va_W)) (As := [.int z1]) (rest := []) hx hb hml hown hts (c_X2_wasSound l G cI cJ cZ cO cA e aS _ pr pu ta se qu im su tc sc rc cn so z1 hq3) (tb_V kw408 kw410 kv5 kw2 kw411) rfl rfl (by decide +kernel) ⟨Nat.le_of_ble_eq_true rfl, Nat.le_of_ble_eq_true rfl⟩ hK hP hD hS hA hE 0 rfl rfl [0, 1, 2, 3, 4, 5, 6, 7] [] rfl rfl rfl 8 ⟨rfl, rfl⟩ (by decide +kernel) (by decide +kernel) rfl rfl hl.1 (Nat.le_of_ble_eq_true rfl) ⟨Nat.zero_le _, Nat.zero_le _⟩ dX2_firstSilent_15 (fun H locs hP hD hS => ?_)
        refine lv_if_eq (tgt := 54) hx hb dX2_firstSilent_18 (by decide) (fun c4 => ?_) (fun c4 => ?_)
        · replace h := (if_pos c4).symm.trans h
          refine lv_iinc (v := (z1 + 1)) (lv' := [(4, .int (z1 + 1)), (0, .ref (aS 0)), (1, .int p0), (2, .int p1), (3, .int p2)]) hx hb dX2_firstSilent_54 hl (k := 4) rfl rfl (by decide) rfl (fun ls hl => ?_)
          refine lv_goto (tgt := 3) hx hb dX2_firstSilent_57 (by decide) ?_
          rw [← Option.some.inj h] at h1
          exact ih1 (z1 + 1) _ _ _ (lp_b h1) hP hD hS (lv_sub hl [1, 2, 3, 4, 0] rfl)
        · replace h := (if_neg c4).symm.trans h
          refine lv_aload_n hx hb dX2_firstSilent_21 rfl (lv_at hl 0 rfl) ?_
          refine va_get (D := G) (ci := 2) (v := .ref (aS 2)) (C := RX2) (T := TX2) (N := 12) hx hb hts uX2 hown hK hP 0 rfl rfl 1 (by decide) (hts _ kw29) (fun _ h9 => h9) rfl dX2_firstSilent_22 ?_
          refine lv_iload hx hb dX2_firstSilent_25 (lv_at hl 4 rfl) ?_
          obtain ⟨g5, h⟩ := gd_s h
          refine va_iald hx hb hK hP 2 0 rfl rfl (ib_in g5) dX2_firstSilent_27 ?_
          refine lv_if_le (tgt := 54) hx hb dX2_firstSilent_28 (by decide) (fun c6 => ?_) (fun c6 => ?_)
          · replace h := (if_pos c6).symm.trans h
            refine lv_iinc (v := (z1 + 1)) (lv' := [(4, .int (z1 + 1)), (0, .ref (aS 0)), (1, .int p0), (2, .int p1), (3, .int p2)]) hx hb dX2_firstSilent_54 hl (k := 4) rfl rfl (by decide) rfl (fun ls hl => ?_)
            refine lv_goto (tgt := 3) hx hb dX2_firstSilent_57 (by decide) ?_
            rw [← Option.some.inj h] at h1
            exact ih1 (z1 + 1) _ _ _ (lp_b h1) hP hD hS (lv_sub hl [1, 2, 3, 4, 0] rfl)
          · replace h := (if_neg c6).symm.trans h
            refine lv_aload_n hx hb dX2_firstSilent_31 rfl (lv_at hl 0 rfl) ?_
            refine lv_iload hx hb dX2_firstSilent_32 (lv_at hl 4 rfl) ?_
            refine lv_aload_n hx hb dX2_firstSilent_34 rfl (lv_at hl 0 rfl) ?_
            refine va_get (D := G) (ci := 2) (v := .ref (aS 2)) (C := RX2) (T := TX2) (N := 12) hx hb hts uX2 hown hK hP 0 rfl rfl 1 (by decide) (hts _ kw29) (fun _ h9 => h9) rfl dX2_firstSilent_35 ?_
            refine lv_iload hx hb dX2_firstSilent_38 (lv_at hl 4 rfl) ?_
            obtain ⟨g7, h⟩ := gd_s h
            refine va_iald hx hb hK hP 2 0 rfl rfl (ib_in g7) dX2_firstSilent_40 ?_
            refine lv_ineg hx hb dX2_firstSilent_41 ?_
            refine lv_iload_n hx hb dX2_firstSilent_42 rfl (lv_at hl 1 rfl) ?_
            refine lv_iload_n hx hb dX2_firstSilent_43 rfl (lv_at hl 2 rfl) ?_
            refine lv_iload_n hx hb dX2_firstSilent_44 rfl (lv_at hl 3 rfl) ?_
            obtain ⟨q8, hq8, h⟩ := bd_s h
            refine kVi (n := 5) (C := RX2) (ws' := wS cI cJ aS pr pu ta se qu im su tc sc rc cn so ++ ([] : va_W)) (As := [.int z1, .int (-(pu z1.toNatClampNeg)), .int p0, .int p1, .int p2]) (rest := []) hx hb hml hown hts (c_X2_isImpulse l G cI cJ cZ cO cA e aS _ pr pu ta se qu im su tc sc rc cn so z1 (-(pu z1.toNatClampNeg)) p0 p1 p2 hq8) (tb_V kw412 kw414 kv6 kw2 kw415) rfl rfl (by decide +kernel) ⟨Nat.le_of_ble_eq_true rfl, Nat.le_of_ble_eq_true rfl⟩ hK hP hD hS hA hE 0 rfl rfl [0, 1, 2, 3, 4, 5, 6, 7] [] rfl rfl rfl 8 ⟨rfl, rfl⟩ (by decide +kernel) (by decide +kernel) rfl rfl hl.1 (Nat.le_of_ble_eq_true rfl) ⟨Nat.zero_le _, Nat.zero_le _⟩ dX2_firstSilent_45 (fun H locs hP hD hS => ?_)
            refine lv_if_eq (tgt := 54) hx hb dX2_firstSilent_48 (by decide) (fun c9 => ?_) (fun c9 => ?_)
            · replace h := (if_pos c9).symm.trans h
              refine lv_iinc (v := (z1 + 1)) (lv' := [(4, .int (z1 + 1)), (0, .ref (aS 0)), (1, .int p0), (2, .int p1), (3, .int p2)]) hx hb dX2_firstSilent_54 hl (k := 4) rfl rfl (by decide) rfl (fun ls hl => ?_)
              refine lv_goto (tgt := 3) hx hb dX2_firstSilent_57 (by decide) ?_
              rw [← Option.some.inj h] at h1
              exact ih1 (z1 + 1) _ _ _ (lp_b h1) hP hD hS (lv_sub hl [1, 2, 3, 4, 0] rfl)
            · replace h := (if_neg c9).symm.trans h
              rw [← Option.some.inj h] at h1
              exact hX1_0 z1 _ _ _ (lp_x h1) hP hD hS (lv_sub hl [4] rfl)
  exact hL1 _ 0 _ _ _ hq1 hP hD hS (lv_sub hl [1, 2, 3, 4, 0] rfl)

/-! X2_firstSteady -/
def f_X2_firstSteady_b3 (pr : Nat → Int32) (pu : Nat → Int32) (tc : Int32) (so : Int32) (v1 : Int32) (v2 : Int32) (v3 : Int32) (z1 : Int32) : Option ((Int32) ⊕ ((Int32) ⊕ (Unit))) :=
  if tc ≤ z1 then (some (Sum.inr (Sum.inr ()))) else ((f_X2_wasSound so z1).bind (fun q3 => if q3 = 0 then (some (Sum.inl (z1 + 1))) else (gd (ib z1 8) (if 20 ≤ (pu z1.toNatClampNeg) then (some (Sum.inl (z1 + 1))) else (gd (ib z1 8) ((f_X2_isImpulse pr z1 (20 - (pu z1.toNatClampNeg)) v1 v2 v3).bind (fun q8 => if q8 = 0 then (some (Sum.inl (z1 + 1))) else (some (Sum.inr (Sum.inl z1))))))))))
def f_X2_firstSteady (pr : Nat → Int32) (pu : Nat → Int32) (tc : Int32) (so : Int32) (p0 : Int32) (p1 : Int32) (p2 : Int32) : Option (Int32) :=
  (lp (f_X2_firstSteady_b3 pr pu tc so p0 p1 p2) 1000 0).bind (fun q1 => Sum.elim (fun t1 => some t1) (fun t1 => some (-1)) q1)

set_option maxHeartbeats 4000000 in
set_option maxRecDepth 100000 in
theorem c_X2_firstSteady (l : Launch) (G : va_G) (cI cJ cZ cO cA : ClassId) (e : Nat × Nat) (aS : Nat → Nat) (sz : Nat) (pr : Nat → Int32) (pu : Nat → Int32) (ta : Nat → Int32) (se : Nat → Int32) (qu : Nat → Int32) (im : Nat → Int32) (su : Nat → Int64) (tc : Int32) (sc : Int32) (rc : Int32) (cn : Int32) (so : Int32) (p0 : Int32) (p1 : Int32) (p2 : Int32) {res : Int32} (hf : f_X2_firstSteady pr pu tc so p0 p1 p2 = some res) : MetI l yX2_firstSteady cX2_firstSteady 5 .int ({ frames := 3, cells := 0, slots := 0, locals := 72 } : Room) [.ref (aS 0), .int p0, .int p1, .int p2] G (ty5 cI cJ cZ cO cA) e (wS cI cJ aS pr pu ta se qu im su tc sc rc cn so ++ ([] : va_W)) (wS cI cJ aS pr pu ta se qu im su tc sc rc cn so ++ ([] : va_W)) sz res := by
  refine g_body (QQ := fun A => (qI G (ty5 cI cJ cZ cO cA) A (wS cI cJ aS pr pu ta se qu im su tc sc rc cn so ++ ([] : va_W)) res)) (own := RX2) (by decide) rfl (Nat.le_of_ble_eq_true rfl) ?_
  intro p ev s m below meth c A ls hx hb hr hml hown hts hlk hA hP hD hS hK hE hl
  have hl : lv_has ls 5 [(0, .ref (aS 0)), (1, .int p0), (2, .int p1), (3, .int p2)] := hl
  show W p l ev ({ frames := 3, cells := 0, slots := 0, locals := 72 } : Room) s m ([.ref (aS 0), .int p0, .int p1, .int p2] : List Value).toArray below meth c s.heap [] 0 0 (MQ below (qI G (ty5 cI cJ cZ cO cA) A (wS cI cJ aS pr pu ta se qu im su tc sc rc cn so ++ ([] : va_W)) res) ([.ref (aS 0), .int p0, .int p1, .int p2] : List Value).toArray s 0 0 A) (F0 m 0 ls [])
  have h := hf
  unfold f_X2_firstSteady at h
  refine lv_iconst (v := 0) hx hb dX2_firstSteady_0 (by decide) ?_
  refine lv_istore (lv' := [(4, .int 0), (0, .ref (aS 0)), (1, .int p0), (2, .int p1), (3, .int p2)]) hx hb dX2_firstSteady_1 hl (by decide) rfl (fun ls hl => ?_)
  obtain ⟨q1, hq1, h⟩ := bd_s h
  have hX1_0 : ∀ (t1 : Int32) (H : Heap) (locs : List Loc) (ls : Array Slot), Sum.inl t1 = q1 → va_P G vwCl (wS cI cJ aS pr pu ta se qu im su tc sc rc cn so ++ ([] : va_W)) H → va_D A (wS cI cJ aS pr pu ta se qu im su tc sc rc cn so ++ ([] : va_W)) → va_S A s.heap H locs → lv_has ls 5 [(4, .int t1)] → W p l ev ({ frames := 3, cells := 0, slots := 0, locals := 72 } : Room) s m ([.ref (aS 0), .int p0, .int p1, .int p2] : List Value).toArray below meth c H locs 0 0 (MQ below (qI G (ty5 cI cJ cZ cO cA) A (wS cI cJ aS pr pu ta se qu im su tc sc rc cn so ++ ([] : va_W)) res) ([.ref (aS 0), .int p0, .int p1, .int p2] : List Value).toArray s 0 0 A) (F0 m 55 ls []) := by
    intro t1 H locs ls e1 hP hD hS hl
    rw [← e1] at h
    replace h := se_l h
    refine lv_iload hx hb dX2_firstSteady_55 (lv_at hl 0 rfl) ?_
    rw [← Option.some.inj h]
    exact kri hx hb hr hlk rfl rfl hP hD hS hK dX2_firstSteady_57
  have hX1_1 : ∀ (t1 : Unit) (H : Heap) (locs : List Loc) (ls : Array Slot), Sum.inr t1 = q1 → va_P G vwCl (wS cI cJ aS pr pu ta se qu im su tc sc rc cn so ++ ([] : va_W)) H → va_D A (wS cI cJ aS pr pu ta se qu im su tc sc rc cn so ++ ([] : va_W)) → va_S A s.heap H locs → lv_has ls 5 [] → W p l ev ({ frames := 3, cells := 0, slots := 0, locals := 72 } : Room) s m ([.ref (aS 0), .int p0, .int p1, .int p2] : List Value).toArray below meth c H locs 0 0 (MQ below (qI G (ty5 cI cJ cZ cO cA) A (wS cI cJ aS pr pu ta se qu im su tc sc rc cn so ++ ([] : va_W)) res) ([.ref (aS 0), .int p0, .int p1, .int p2] : List Value).toArray s 0 0 A) (F0 m 64 ls []) := by
    intro t1 H locs ls e1 hP hD hS hl
    rw [← e1] at h
    replace h := se_r h
    refine lv_iconst (v := (-1)) hx hb dX2_firstSteady_64 (by decide) ?_
    rw [← Option.some.inj h]
    exact kri hx hb hr hlk rfl rfl hP hD hS hK dX2_firstSteady_65
  have hL1 : ∀ (n : Nat) (z1 : Int32) (H : Heap) (locs : List Loc) (ls : Array Slot), lp (f_X2_firstSteady_b3 pr pu tc so p0 p1 p2) n z1 = some q1 → va_P G vwCl (wS cI cJ aS pr pu ta se qu im su tc sc rc cn so ++ ([] : va_W)) H → va_D A (wS cI cJ aS pr pu ta se qu im su tc sc rc cn so ++ ([] : va_W)) → va_S A s.heap H locs → lv_has ls 5 [(0, .ref (aS 0)), (1, .int p0), (2, .int p1), (3, .int p2), (4, .int z1)] → W p l ev ({ frames := 3, cells := 0, slots := 0, locals := 72 } : Room) s m ([.ref (aS 0), .int p0, .int p1, .int p2] : List Value).toArray below meth c H locs 0 0 (MQ below (qI G (ty5 cI cJ cZ cO cA) A (wS cI cJ aS pr pu ta se qu im su tc sc rc cn so ++ ([] : va_W)) res) ([.ref (aS 0), .int p0, .int p1, .int p2] : List Value).toArray s 0 0 A) (F0 m 3 ls []) := by
    intro n
    induction n with
    | zero => intro z1 H locs ls h; cases h
    | succ n ih1 =>
      intro z1 H locs ls h hP hD hS hl
      obtain ⟨o1, h, h1⟩ := lp_s h
      unfold f_X2_firstSteady_b3 at h
      refine lv_iload hx hb dX2_firstSteady_3 (lv_at hl 4 rfl) ?_
      refine lv_aload_n hx hb dX2_firstSteady_5 rfl (lv_at hl 0 rfl) ?_
      refine va_get (D := G) (ci := 2) (v := .int tc) (C := RX2) (T := TX2) (N := 12) hx hb hts uX2 hown hK hP 0 rfl rfl 7 (by decide) (hts _ kw42) (fun _ h9 => h9) rfl dX2_firstSteady_6 ?_
      refine lv_icmp_ge (tgt := 64) hx hb dX2_firstSteady_9 (by decide) (fun c2 => ?_) (fun c2 => ?_)
      · replace h := (if_pos c2).symm.trans h
        rw [← Option.some.inj h] at h1
        exact hX1_1 () _ _ _ (lp_x h1) hP hD hS (lv_sub hl [] rfl)
      · replace h := (if_neg c2).symm.trans h
        refine lv_aload_n hx hb dX2_firstSteady_12 rfl (lv_at hl 0 rfl) ?_
        refine lv_iload hx hb dX2_firstSteady_13 (lv_at hl 4 rfl) ?_
        obtain ⟨q3, hq3, h⟩ := bd_s h
        refine kVi (n := 1) (C := RX2) (ws' := wS cI cJ aS pr pu ta se qu im su tc sc rc cn so ++ ([] : va_W)) (As := [.int z1]) (rest := []) hx hb hml hown hts (c_X2_wasSound l G cI cJ cZ cO cA e aS _ pr pu ta se qu im su tc sc rc cn so z1 hq3) (tb_V kw408 kw410 kv5 kw2 kw411) rfl rfl (by decide +kernel) ⟨Nat.le_of_ble_eq_true rfl, Nat.le_of_ble_eq_true rfl⟩ hK hP hD hS hA hE 0 rfl rfl [0, 1, 2, 3, 4, 5, 6, 7] [] rfl rfl rfl 8 ⟨rfl, rfl⟩ (by decide +kernel) (by decide +kernel) rfl rfl hl.1 (Nat.le_of_ble_eq_true rfl) ⟨Nat.zero_le _, Nat.zero_le _⟩ dX2_firstSteady_15 (fun H locs hP hD hS => ?_)
        refine lv_if_eq (tgt := 58) hx hb dX2_firstSteady_18 (by decide) (fun c4 => ?_) (fun c4 => ?_)
        · replace h := (if_pos c4).symm.trans h
          refine lv_iinc (v := (z1 + 1)) (lv' := [(4, .int (z1 + 1)), (0, .ref (aS 0)), (1, .int p0), (2, .int p1), (3, .int p2)]) hx hb dX2_firstSteady_58 hl (k := 4) rfl rfl (by decide) rfl (fun ls hl => ?_)
          refine lv_goto (tgt := 3) hx hb dX2_firstSteady_61 (by decide) ?_
          rw [← Option.some.inj h] at h1
          exact ih1 (z1 + 1) _ _ _ (lp_b h1) hP hD hS (lv_sub hl [1, 2, 3, 4, 0] rfl)
        · replace h := (if_neg c4).symm.trans h
          refine lv_aload_n hx hb dX2_firstSteady_21 rfl (lv_at hl 0 rfl) ?_
          refine va_get (D := G) (ci := 2) (v := .ref (aS 2)) (C := RX2) (T := TX2) (N := 12) hx hb hts uX2 hown hK hP 0 rfl rfl 1 (by decide) (hts _ kw29) (fun _ h9 => h9) rfl dX2_firstSteady_22 ?_
          refine lv_iload hx hb dX2_firstSteady_25 (lv_at hl 4 rfl) ?_
          obtain ⟨g5, h⟩ := gd_s h
          refine va_iald hx hb hK hP 2 0 rfl rfl (ib_in g5) dX2_firstSteady_27 ?_
          refine lv_bipush (v := 20) hx hb dX2_firstSteady_28 (by decide) ?_
          refine lv_icmp_ge (tgt := 58) hx hb dX2_firstSteady_30 (by decide) (fun c6 => ?_) (fun c6 => ?_)
          · replace h := (if_pos c6).symm.trans h
            refine lv_iinc (v := (z1 + 1)) (lv' := [(4, .int (z1 + 1)), (0, .ref (aS 0)), (1, .int p0), (2, .int p1), (3, .int p2)]) hx hb dX2_firstSteady_58 hl (k := 4) rfl rfl (by decide) rfl (fun ls hl => ?_)
            refine lv_goto (tgt := 3) hx hb dX2_firstSteady_61 (by decide) ?_
            rw [← Option.some.inj h] at h1
            exact ih1 (z1 + 1) _ _ _ (lp_b h1) hP hD hS (lv_sub hl [1, 2, 3, 4, 0] rfl)
          · replace h := (if_neg c6).symm.trans h
            refine lv_aload_n hx hb dX2_firstSteady_33 rfl (lv_at hl 0 rfl) ?_
            refine lv_iload hx hb dX2_firstSteady_34 (lv_at hl 4 rfl) ?_
            refine lv_bipush (v := 20) hx hb dX2_firstSteady_36 (by decide) ?_
            refine lv_aload_n hx hb dX2_firstSteady_38 rfl (lv_at hl 0 rfl) ?_
            refine va_get (D := G) (ci := 2) (v := .ref (aS 2)) (C := RX2) (T := TX2) (N := 12) hx hb hts uX2 hown hK hP 0 rfl rfl 1 (by decide) (hts _ kw29) (fun _ h9 => h9) rfl dX2_firstSteady_39 ?_
            refine lv_iload hx hb dX2_firstSteady_42 (lv_at hl 4 rfl) ?_
            obtain ⟨g7, h⟩ := gd_s h
            refine va_iald hx hb hK hP 2 0 rfl rfl (ib_in g7) dX2_firstSteady_44 ?_
            refine lv_isub hx hb dX2_firstSteady_45 ?_
            refine lv_iload_n hx hb dX2_firstSteady_46 rfl (lv_at hl 1 rfl) ?_
            refine lv_iload_n hx hb dX2_firstSteady_47 rfl (lv_at hl 2 rfl) ?_
            refine lv_iload_n hx hb dX2_firstSteady_48 rfl (lv_at hl 3 rfl) ?_
            obtain ⟨q8, hq8, h⟩ := bd_s h
            refine kVi (n := 5) (C := RX2) (ws' := wS cI cJ aS pr pu ta se qu im su tc sc rc cn so ++ ([] : va_W)) (As := [.int z1, .int (20 - (pu z1.toNatClampNeg)), .int p0, .int p1, .int p2]) (rest := []) hx hb hml hown hts (c_X2_isImpulse l G cI cJ cZ cO cA e aS _ pr pu ta se qu im su tc sc rc cn so z1 (20 - (pu z1.toNatClampNeg)) p0 p1 p2 hq8) (tb_V kw412 kw414 kv6 kw2 kw415) rfl rfl (by decide +kernel) ⟨Nat.le_of_ble_eq_true rfl, Nat.le_of_ble_eq_true rfl⟩ hK hP hD hS hA hE 0 rfl rfl [0, 1, 2, 3, 4, 5, 6, 7] [] rfl rfl rfl 8 ⟨rfl, rfl⟩ (by decide +kernel) (by decide +kernel) rfl rfl hl.1 (Nat.le_of_ble_eq_true rfl) ⟨Nat.zero_le _, Nat.zero_le _⟩ dX2_firstSteady_49 (fun H locs hP hD hS => ?_)
            refine lv_if_eq (tgt := 58) hx hb dX2_firstSteady_52 (by decide) (fun c9 => ?_) (fun c9 => ?_)
            · replace h := (if_pos c9).symm.trans h
              refine lv_iinc (v := (z1 + 1)) (lv' := [(4, .int (z1 + 1)), (0, .ref (aS 0)), (1, .int p0), (2, .int p1), (3, .int p2)]) hx hb dX2_firstSteady_58 hl (k := 4) rfl rfl (by decide) rfl (fun ls hl => ?_)
              refine lv_goto (tgt := 3) hx hb dX2_firstSteady_61 (by decide) ?_
              rw [← Option.some.inj h] at h1
              exact ih1 (z1 + 1) _ _ _ (lp_b h1) hP hD hS (lv_sub hl [1, 2, 3, 4, 0] rfl)
            · replace h := (if_neg c9).symm.trans h
              rw [← Option.some.inj h] at h1
              exact hX1_0 z1 _ _ _ (lp_x h1) hP hD hS (lv_sub hl [4] rfl)
  exact hL1 _ 0 _ _ _ hq1 hP hD hS (lv_sub hl [1, 2, 3, 4, 0] rfl)

/-! X4_suspect -/
def f_X4_suspect_j83 (pr : Nat → Int32) (pu : Nat → Int32) (tc : Int32) (so : Int32) (v4 : Int32) (v5 : Int32) (v6 : Int32) : Option (Int32) :=
  (f_X2_firstSilent pr pu tc so v4 v5 v6).bind (fun q9 => if q9 < 0 then ((f_X2_firstSteady pr pu tc so v4 v5 v6).bind (fun q11 => if q11 < 0 then (some (-2000000000)) else (some (200 + q11)))) else (some (100 + q9)))
def f_X4_suspect (pr : Nat → Int32) (pu : Nat → Int32) (im : Nat → Int32) (tc : Int32) (cn : Int32) (so : Int32) (p0 : Int32) (p1 : Int32) (p2 : Int32) : Option (Int32) :=
  (f_X4_areAtMost p0 p1 p2 1000000).bind (fun q1 => if q1 = 0 then (some (-2000000002)) else (if cn = 0 then (some (-2000000003)) else ((f_X2_impulsePart im 1 0).bind (fun q4 => (f_X2_impulsePart im 1 1).bind (fun q5 => (f_X2_impulsePart im 1 2).bind (fun q6 => if (p0 - q4) = 0 then (if (p1 - q5) = 0 then (if (p2 - q6) = 0 then (some 0) else (f_X4_suspect_j83 pr pu tc so (p0 - q4) (p1 - q5) (p2 - q6))) else (f_X4_suspect_j83 pr pu tc so (p0 - q4) (p1 - q5) (p2 - q6))) else (f_X4_suspect_j83 pr pu tc so (p0 - q4) (p1 - q5) (p2 - q6))))))))

set_option maxHeartbeats 4000000 in
set_option maxRecDepth 100000 in
theorem c_X4_suspect (l : Launch) (G : va_G) (cI cJ cZ cO cA : ClassId) (e : Nat × Nat) (aT : Nat) (aS : Nat → Nat) (aH : Nat → Nat) (aE : Nat → Nat) (aX : Nat → Nat) (sz : Nat) (pr : Nat → Int32) (pu : Nat → Int32) (ta : Nat → Int32) (se : Nat → Int32) (qu : Nat → Int32) (im : Nat → Int32) (su : Nat → Int64) (tc : Int32) (sc : Int32) (rc : Int32) (cn : Int32) (so : Int32) (p0 : Int32) (p1 : Int32) (p2 : Int32) {res : Int32} (hf : f_X4_suspect pr pu im tc cn so p0 p1 p2 = some res) : MetI l yX4_suspect cX4_suspect 9 .int ({ frames := 4, cells := 0, slots := 0, locals := 96 } : Room) [.ref aT, .int p0, .int p1, .int p2] G (ty5 cI cJ cZ cO cA) e (wT aT (aS 0) (aH 0) (aE 0) (aX 0) ++ (wS cI cJ aS pr pu ta se qu im su tc sc rc cn so ++ ([] : va_W))) (wT aT (aS 0) (aH 0) (aE 0) (aX 0) ++ (wS cI cJ aS pr pu ta se qu im su tc sc rc cn so ++ ([] : va_W))) sz res := by
  refine g_body (QQ := fun A => (qI G (ty5 cI cJ cZ cO cA) A (wT aT (aS 0) (aH 0) (aE 0) (aX 0) ++ (wS cI cJ aS pr pu ta se qu im su tc sc rc cn so ++ ([] : va_W))) res)) (own := RX4) (by decide) rfl (Nat.le_of_ble_eq_true rfl) ?_
  intro p ev s m below meth c A ls hx hb hr hml hown hts hlk hA hP hD hS hK hE hl
  have hl : lv_has ls 9 [(0, .ref aT), (1, .int p0), (2, .int p1), (3, .int p2)] := hl
  show W p l ev ({ frames := 4, cells := 0, slots := 0, locals := 96 } : Room) s m ([.ref aT, .int p0, .int p1, .int p2] : List Value).toArray below meth c s.heap [] 0 0 (MQ below (qI G (ty5 cI cJ cZ cO cA) A (wT aT (aS 0) (aH 0) (aE 0) (aX 0) ++ (wS cI cJ aS pr pu ta se qu im su tc sc rc cn so ++ ([] : va_W))) res) ([.ref aT, .int p0, .int p1, .int p2] : List Value).toArray s 0 0 A) (F0 m 0 ls [])
  have h := hf
  unfold f_X4_suspect at h
  refine lv_iload_n hx hb dX4_suspect_0 rfl (lv_at hl 1 rfl) ?_
  refine lv_iload_n hx hb dX4_suspect_1 rfl (lv_at hl 2 rfl) ?_
  refine lv_iload_n hx hb dX4_suspect_2 rfl (lv_at hl 3 rfl) ?_
  refine lv_ldc (v := 1000000) hx hb hown (hts _ kw403) dX4_suspect_3 ?_
  obtain ⟨q1, hq1, h⟩ := bd_s h
  refine kSi (n := 4) (As := [.int p0, .int p1, .int p2, .int 1000000]) (rest := []) hx hb hml hown hts (c_X4_areAtMost l G cI cJ cZ cO cA e _ p0 p1 p2 1000000 hq1) (tb_S kw297 kw298 kw1 kw299) rfl rfl (by decide +kernel) ⟨Nat.le_of_ble_eq_true rfl, Nat.le_of_ble_eq_true rfl⟩ hK hP hD hS hA hE rfl rfl hl.1 (Nat.le_of_ble_eq_true rfl) ⟨Nat.zero_le _, Nat.zero_le _⟩ dX4_suspect_5 (fun H locs hP hD hS => ?_)
  refine lv_if_ne (tgt := 14) hx hb dX4_suspect_8 (by decide) (fun c2 => ?_) (fun c2 => ?_)
  · replace h := (if_neg c2).symm.trans h
    refine lv_aload_n hx hb dX4_suspect_14 rfl (lv_at hl 0 rfl) ?_
    refine va_get (D := G) (ci := 4) (v := .ref (aS 0)) (C := RX4) (T := TX4) (N := 4) hx hb hts uX4 hown hK hP 0 rfl rfl 0 (by decide) (hts _ kw165) (fun _ h9 => h9) rfl dX4_suspect_15 ?_
    refine va_getN (D := G) (ci := 2) (v := .int cn) (C := RX2) (T := TX2) (N := 12) hx hb hts uX2 hown hK hP 1 rfl rfl 10 (by decide) (hE.nw nk48) (fun _ h9 => h9) rfl dX4_suspect_18 ?_
    refine lv_if_ne (tgt := 27) hx hb dX4_suspect_21 (by decide) (fun c3 => ?_) (fun c3 => ?_)
    · replace h := (if_neg c3).symm.trans h
      refine lv_iload_n hx hb dX4_suspect_27 rfl (lv_at hl 1 rfl) ?_
      refine lv_aload_n hx hb dX4_suspect_28 rfl (lv_at hl 0 rfl) ?_
      refine va_get (D := G) (ci := 4) (v := .ref (aS 0)) (C := RX4) (T := TX4) (N := 4) hx hb hts uX4 hown hK hP 0 rfl rfl 0 (by decide) (hts _ kw165) (fun _ h9 => h9) rfl dX4_suspect_29 ?_
      refine lv_iconst (v := 1) hx hb dX4_suspect_32 (by decide) ?_
      refine lv_iconst (v := 0) hx hb dX4_suspect_33 (by decide) ?_
      obtain ⟨q4, hq4, h⟩ := bd_s h
      refine kVi (n := 2) (C := RX2) (ws' := wT aT (aS 0) (aH 0) (aE 0) (aX 0) ++ (wS cI cJ aS pr pu ta se qu im su tc sc rc cn so ++ ([] : va_W))) (As := [.int 1, .int 0]) (rest := [.int p0]) hx hb hml hown hts (c_X2_impulsePart l G cI cJ cZ cO cA e aS _ pr pu ta se qu im su tc sc rc cn so 1 0 hq4) (tb_V kw368 kw357 kw358 kw2 kw359) rfl rfl (by decide +kernel) ⟨Nat.le_of_ble_eq_true rfl, Nat.le_of_ble_eq_true rfl⟩ hK hP hD hS hA hE 1 rfl rfl [1, 2, 3, 4, 5, 6, 7, 8] [0] rfl rfl rfl 9 ⟨rfl, rfl⟩ (by decide +kernel) (by decide +kernel) rfl rfl hl.1 (Nat.le_of_ble_eq_true rfl) ⟨Nat.zero_le _, Nat.zero_le _⟩ dX4_suspect_34 (fun H locs hP hD hS => ?_)
      refine lv_isub hx hb dX4_suspect_37 ?_
      refine lv_istore (lv' := [(4, .int (p0 - q4)), (0, .ref aT), (1, .int p0), (2, .int p1), (3, .int p2)]) hx hb dX4_suspect_38 hl (by decide) rfl (fun ls hl => ?_)
      refine lv_iload_n hx hb dX4_suspect_40 rfl (lv_at hl 3 rfl) ?_
      refine lv_aload_n hx hb dX4_suspect_41 rfl (lv_at hl 1 rfl) ?_
      refine va_get (D := G) (ci := 4) (v := .ref (aS 0)) (C := RX4) (T := TX4) (N := 4) hx hb hts uX4 hown hK hP 0 rfl rfl 0 (by decide) (hts _ kw165) (fun _ h9 => h9) rfl dX4_suspect_42 ?_
      refine lv_iconst (v := 1) hx hb dX4_suspect_45 (by decide) ?_
      refine lv_iconst (v := 1) hx hb dX4_suspect_46 (by decide) ?_
      obtain ⟨q5, hq5, h⟩ := bd_s h
      refine kVi (n := 2) (C := RX2) (ws' := wT aT (aS 0) (aH 0) (aE 0) (aX 0) ++ (wS cI cJ aS pr pu ta se qu im su tc sc rc cn so ++ ([] : va_W))) (As := [.int 1, .int 1]) (rest := [.int p1]) hx hb hml hown hts (c_X2_impulsePart l G cI cJ cZ cO cA e aS _ pr pu ta se qu im su tc sc rc cn so 1 1 hq5) (tb_V kw368 kw357 kw358 kw2 kw359) rfl rfl (by decide +kernel) ⟨Nat.le_of_ble_eq_true rfl, Nat.le_of_ble_eq_true rfl⟩ hK hP hD hS hA hE 1 rfl rfl [1, 2, 3, 4, 5, 6, 7, 8] [0] rfl rfl rfl 9 ⟨rfl, rfl⟩ (by decide +kernel) (by decide +kernel) rfl rfl hl.1 (Nat.le_of_ble_eq_true rfl) ⟨Nat.zero_le _, Nat.zero_le _⟩ dX4_suspect_47 (fun H locs hP hD hS => ?_)
      refine lv_isub hx hb dX4_suspect_50 ?_
      refine lv_istore (lv' := [(5, .int (p1 - q5)), (4, .int (p0 - q4)), (0, .ref aT), (1, .int p0), (2, .int p1), (3, .int p2)]) hx hb dX4_suspect_51 hl (by decide) rfl (fun ls hl => ?_)
      refine lv_iload_n hx hb dX4_suspect_53 rfl (lv_at hl 5 rfl) ?_
      refine lv_aload_n hx hb dX4_suspect_54 rfl (lv_at hl 2 rfl) ?_
      refine va_get (D := G) (ci := 4) (v := .ref (aS 0)) (C := RX4) (T := TX4) (N := 4) hx hb hts uX4 hown hK hP 0 rfl rfl 0 (by decide) (hts _ kw165) (fun _ h9 => h9) rfl dX4_suspect_55 ?_
      refine lv_iconst (v := 1) hx hb dX4_suspect_58 (by decide) ?_
      refine lv_iconst (v := 2) hx hb dX4_suspect_59 (by decide) ?_
      obtain ⟨q6, hq6, h⟩ := bd_s h
      refine kVi (n := 2) (C := RX2) (ws' := wT aT (aS 0) (aH 0) (aE 0) (aX 0) ++ (wS cI cJ aS pr pu ta se qu im su tc sc rc cn so ++ ([] : va_W))) (As := [.int 1, .int 2]) (rest := [.int p2]) hx hb hml hown hts (c_X2_impulsePart l G cI cJ cZ cO cA e aS _ pr pu ta se qu im su tc sc rc cn so 1 2 hq6) (tb_V kw368 kw357 kw358 kw2 kw359) rfl rfl (by decide +kernel) ⟨Nat.le_of_ble_eq_true rfl, Nat.le_of_ble_eq_true rfl⟩ hK hP hD hS hA hE 1 rfl rfl [1, 2, 3, 4, 5, 6, 7, 8] [0] rfl rfl rfl 9 ⟨rfl, rfl⟩ (by decide +kernel) (by decide +kernel) rfl rfl hl.1 (Nat.le_of_ble_eq_true rfl) ⟨Nat.zero_le _, Nat.zero_le _⟩ dX4_suspect_60 (fun H locs hP hD hS => ?_)
      refine lv_isub hx hb dX4_suspect_63 ?_
      refine lv_istore (lv' := [(6, .int (p2 - q6)), (5, .int (p1 - q5)), (4, .int (p0 - q4)), (0, .ref aT), (1, .int p0), (2, .int p1), (3, .int p2)]) hx hb dX4_suspect_64 hl (by decide) rfl (fun ls hl => ?_)
      refine lv_iload hx hb dX4_suspect_66 (lv_at hl 2 rfl) ?_
      have hJ8 : ∀ (v4_8 : Int32) (v5_8 : Int32) (v6_8 : Int32) (H : Heap) (locs : List Loc) (ls : Array Slot), f_X4_suspect_j83 pr pu tc so v4_8 v5_8 v6_8 = some res → va_P G vwCl (wT aT (aS 0) (aH 0) (aE 0) (aX 0) ++ (wS cI cJ aS pr pu ta se qu im su tc sc rc cn so ++ ([] : va_W))) H → va_D A (wT aT (aS 0) (aH 0) (aE 0) (aX 0) ++ (wS cI cJ aS pr pu ta se qu im su tc sc rc cn so ++ ([] : va_W))) → va_S A s.heap H locs → lv_has ls 9 [(0, .ref aT), (4, .int v4_8), (5, .int v5_8), (6, .int v6_8)] → W p l ev ({ frames := 4, cells := 0, slots := 0, locals := 96 } : Room) s m ([.ref aT, .int p0, .int p1, .int p2] : List Value).toArray below meth c H locs 0 0 (MQ below (qI G (ty5 cI cJ cZ cO cA) A (wT aT (aS 0) (aH 0) (aE 0) (aX 0) ++ (wS cI cJ aS pr pu ta se qu im su tc sc rc cn so ++ ([] : va_W))) res) ([.ref aT, .int p0, .int p1, .int p2] : List Value).toArray s 0 0 A) (F0 m 83 ls []) := by
        intro v4_8 v5_8 v6_8 H locs ls h hP hD hS hl
        unfold f_X4_suspect_j83 at h
        refine lv_aload_n hx hb dX4_suspect_83 rfl (lv_at hl 0 rfl) ?_
        refine va_get (D := G) (ci := 4) (v := .ref (aS 0)) (C := RX4) (T := TX4) (N := 4) hx hb hts uX4 hown hK hP 0 rfl rfl 0 (by decide) (hts _ kw165) (fun _ h9 => h9) rfl dX4_suspect_84 ?_
        refine lv_iload hx hb dX4_suspect_87 (lv_at hl 1 rfl) ?_
        refine lv_iload hx hb dX4_suspect_89 (lv_at hl 2 rfl) ?_
        refine lv_iload hx hb dX4_suspect_91 (lv_at hl 3 rfl) ?_
        obtain ⟨q9, hq9, h⟩ := bd_s h
        refine kVi (n := 3) (C := RX2) (ws' := wT aT (aS 0) (aH 0) (aE 0) (aX 0) ++ (wS cI cJ aS pr pu ta se qu im su tc sc rc cn so ++ ([] : va_W))) (As := [.int v4_8, .int v5_8, .int v6_8]) (rest := []) hx hb hml hown hts (c_X2_firstSilent l G cI cJ cZ cO cA e aS _ pr pu ta se qu im su tc sc rc cn so v4_8 v5_8 v6_8 hq9) (tb_V kw404 kw405 kw406 kw2 kw407) rfl rfl (by decide +kernel) ⟨Nat.le_of_ble_eq_true rfl, Nat.le_of_ble_eq_true rfl⟩ hK hP hD hS hA hE 1 rfl rfl [1, 2, 3, 4, 5, 6, 7, 8] [0] rfl rfl rfl 9 ⟨rfl, rfl⟩ (by decide +kernel) (by decide +kernel) rfl rfl hl.1 (Nat.le_of_ble_eq_true rfl) ⟨Nat.zero_le _, Nat.zero_le _⟩ dX4_suspect_93 (fun H locs hP hD hS => ?_)
        refine lv_istore (lv' := [(7, .int q9), (0, .ref aT), (4, .int v4_8), (5, .int v5_8), (6, .int v6_8)]) hx hb dX4_suspect_96 hl (by decide) rfl (fun ls hl => ?_)
        refine lv_iload hx hb dX4_suspect_98 (lv_at hl 0 rfl) ?_
        refine lv_if_lt (tgt := 109) hx hb dX4_suspect_100 (by decide) (fun c10 => ?_) (fun c10 => ?_)
        · replace h := (if_pos c10).symm.trans h
          refine lv_aload_n hx hb dX4_suspect_109 rfl (lv_at hl 1 rfl) ?_
          refine va_get (D := G) (ci := 4) (v := .ref (aS 0)) (C := RX4) (T := TX4) (N := 4) hx hb hts uX4 hown hK hP 0 rfl rfl 0 (by decide) (hts _ kw165) (fun _ h9 => h9) rfl dX4_suspect_110 ?_
          refine lv_iload hx hb dX4_suspect_113 (lv_at hl 2 rfl) ?_
          refine lv_iload hx hb dX4_suspect_115 (lv_at hl 3 rfl) ?_
          refine lv_iload hx hb dX4_suspect_117 (lv_at hl 4 rfl) ?_
          obtain ⟨q11, hq11, h⟩ := bd_s h
          refine kVi (n := 3) (C := RX2) (ws' := wT aT (aS 0) (aH 0) (aE 0) (aX 0) ++ (wS cI cJ aS pr pu ta se qu im su tc sc rc cn so ++ ([] : va_W))) (As := [.int v4_8, .int v5_8, .int v6_8]) (rest := []) hx hb hml hown hts (c_X2_firstSteady l G cI cJ cZ cO cA e aS _ pr pu ta se qu im su tc sc rc cn so v4_8 v5_8 v6_8 hq11) (tb_V kw416 kw417 kw418 kw2 kw419) rfl rfl (by decide +kernel) ⟨Nat.le_of_ble_eq_true rfl, Nat.le_of_ble_eq_true rfl⟩ hK hP hD hS hA hE 1 rfl rfl [1, 2, 3, 4, 5, 6, 7, 8] [0] rfl rfl rfl 9 ⟨rfl, rfl⟩ (by decide +kernel) (by decide +kernel) rfl rfl hl.1 (Nat.le_of_ble_eq_true rfl) ⟨Nat.zero_le _, Nat.zero_le _⟩ dX4_suspect_119 (fun H locs hP hD hS => ?_)
          refine lv_istore (lv' := [(8, .int q11), (7, .int q9), (0, .ref aT), (4, .int v4_8), (5, .int v5_8), (6, .int v6_8)]) hx hb dX4_suspect_122 hl (by decide) rfl (fun ls hl => ?_)
          refine lv_iload hx hb dX4_suspect_124 (lv_at hl 0 rfl) ?_
          refine lv_if_lt (tgt := 138) hx hb dX4_suspect_126 (by decide) (fun c12 => ?_) (fun c12 => ?_)
          · replace h := (if_pos c12).symm.trans h
            refine lv_ldc (v := (-2000000000)) hx hb hown (hts _ kw333) dX4_suspect_138 ?_
            rw [← Option.some.inj h]
            exact kri hx hb hr hlk rfl rfl hP hD hS hK dX4_suspect_140
          · replace h := (if_neg c12).symm.trans h
            refine lv_sipush (v := 200) hx hb dX4_suspect_129 (by decide) ?_
            refine lv_iload hx hb dX4_suspect_132 (lv_at hl 0 rfl) ?_
            refine lv_iadd hx hb dX4_suspect_134 ?_
            refine lv_goto (tgt := 140) hx hb dX4_suspect_135 (by decide) ?_
            rw [← Option.some.inj h]
            exact kri hx hb hr hlk rfl rfl hP hD hS hK dX4_suspect_140
        · replace h := (if_neg c10).symm.trans h
          refine lv_bipush (v := 100) hx hb dX4_suspect_103 (by decide) ?_
          refine lv_iload hx hb dX4_suspect_105 (lv_at hl 0 rfl) ?_
          refine lv_iadd hx hb dX4_suspect_107 ?_
          rw [← Option.some.inj h]
          exact kri hx hb hr hlk rfl rfl hP hD hS hK dX4_suspect_108
      refine lv_if_ne (tgt := 83) hx hb dX4_suspect_68 (by decide) (fun c7 => ?_) (fun c7 => ?_)
      · replace h := (if_neg c7).symm.trans h
        exact hJ8 (p0 - q4) (p1 - q5) (p2 - q6) _ _ _ h hP hD hS (lv_sub hl [3, 2, 1, 0] rfl)
      · replace h := (if_pos c7).symm.trans h
        refine lv_iload hx hb dX4_suspect_71 (lv_at hl 1 rfl) ?_
        refine lv_if_ne (tgt := 83) hx hb dX4_suspect_73 (by decide) (fun c13 => ?_) (fun c13 => ?_)
        · replace h := (if_neg c13).symm.trans h
          exact hJ8 (p0 - q4) (p1 - q5) (p2 - q6) _ _ _ h hP hD hS (lv_sub hl [3, 2, 1, 0] rfl)
        · replace h := (if_pos c13).symm.trans h
          refine lv_iload hx hb dX4_suspect_76 (lv_at hl 0 rfl) ?_
          refine lv_if_ne (tgt := 83) hx hb dX4_suspect_78 (by decide) (fun c14 => ?_) (fun c14 => ?_)
          · replace h := (if_neg c14).symm.trans h
            exact hJ8 (p0 - q4) (p1 - q5) (p2 - q6) _ _ _ h hP hD hS (lv_sub hl [3, 2, 1, 0] rfl)
          · replace h := (if_pos c14).symm.trans h
            refine lv_iconst (v := 0) hx hb dX4_suspect_81 (by decide) ?_
            rw [← Option.some.inj h]
            exact kri hx hb hr hlk rfl rfl hP hD hS hK dX4_suspect_82
    · replace h := (if_pos c3).symm.trans h
      refine lv_ldc (v := (-2000000003)) hx hb hown (hts _ kw275) dX4_suspect_24 ?_
      rw [← Option.some.inj h]
      exact kri hx hb hr hlk rfl rfl hP hD hS hK dX4_suspect_26
  · replace h := (if_pos c2).symm.trans h
    refine lv_ldc (v := (-2000000002)) hx hb hown (hts _ kw192) dX4_suspect_11 ?_
    rw [← Option.some.inj h]
    exact kri hx hb hr hlk rfl rfl hP hD hS hK dX4_suspect_13

/-! X0_restore -/
def f_X0_restore (hs : Nat → SV) (ol : Int32) (pr : Nat → Int32) (pu : Nat → Int32) (ta : Nat → Int32) (se : Nat → Int32) (qu : Nat → Int32) (im : Nat → Int32) (su : Nat → Int64) (tc : Int32) (sc : Int32) (rc : Int32) (cn : Int32) (so : Int32) (ct : Int32) : Option ((Nat → Int32) × (Nat → Int32) × (Nat → Int32) × (Nat → Int32) × (Nat → Int32) × (Nat → Int32) × (Nat → Int64) × Int32 × Int32 × Int32 × Int32 × Int32 × Int32) :=
  if ct ≤ 0 then (some (pr, pu, ta, se, qu, im, su, tc, sc, rc, cn, so, ct)) else (gd (ib ((ol + (ct - 1)) - (ol + (ct - 1)) / 5 * 5) 5) ((f_X2_copyFrom ((hs ((ol + (ct - 1)) - (ol + (ct - 1)) / 5 * 5).toNatClampNeg).1) ((hs ((ol + (ct - 1)) - (ol + (ct - 1)) / 5 * 5).toNatClampNeg).2.1) ((hs ((ol + (ct - 1)) - (ol + (ct - 1)) / 5 * 5).toNatClampNeg).2.2.1) ((hs ((ol + (ct - 1)) - (ol + (ct - 1)) / 5 * 5).toNatClampNeg).2.2.2.1) ((hs ((ol + (ct - 1)) - (ol + (ct - 1)) / 5 * 5).toNatClampNeg).2.2.2.2.1) ((hs ((ol + (ct - 1)) - (ol + (ct - 1)) / 5 * 5).toNatClampNeg).2.2.2.2.2.1) ((hs ((ol + (ct - 1)) - (ol + (ct - 1)) / 5 * 5).toNatClampNeg).2.2.2.2.2.2.1) ((hs ((ol + (ct - 1)) - (ol + (ct - 1)) / 5 * 5).toNatClampNeg).2.2.2.2.2.2.2.1) ((hs ((ol + (ct - 1)) - (ol + (ct - 1)) / 5 * 5).toNatClampNeg).2.2.2.2.2.2.2.2.1) ((hs ((ol + (ct - 1)) - (ol + (ct - 1)) / 5 * 5).toNatClampNeg).2.2.2.2.2.2.2.2.2.1) ((hs ((ol + (ct - 1)) - (ol + (ct - 1)) / 5 * 5).toNatClampNeg).2.2.2.2.2.2.2.2.2.2.1) ((hs ((ol + (ct - 1)) - (ol + (ct - 1)) / 5 * 5).toNatClampNeg).2.2.2.2.2.2.2.2.2.2.2) pr pu ta se qu im su tc sc rc cn so).bind (fun q9 => some (q9.1, q9.2.1, q9.2.2.1, q9.2.2.2.1, q9.2.2.2.2.1, q9.2.2.2.2.2.1, q9.2.2.2.2.2.2.1, q9.2.2.2.2.2.2.2.1, q9.2.2.2.2.2.2.2.2.1, q9.2.2.2.2.2.2.2.2.2.1, q9.2.2.2.2.2.2.2.2.2.2.1, q9.2.2.2.2.2.2.2.2.2.2.2, (ct - 1)))))

set_option maxHeartbeats 4000000 in
set_option maxRecDepth 100000 in
theorem c_X0_restore (l : Launch) (G : va_G) (cI cJ cZ cO cA : ClassId) (e : Nat × Nat) (aS : Nat → Nat) (aH : Nat → Nat) (aK : Nat → Nat → Nat) (sz : Nat) (pr : Nat → Int32) (pu : Nat → Int32) (ta : Nat → Int32) (se : Nat → Int32) (qu : Nat → Int32) (im : Nat → Int32) (su : Nat → Int64) (tc : Int32) (sc : Int32) (rc : Int32) (cn : Int32) (so : Int32) (hs : Nat → SV) (ol : Int32) (ct : Int32) {res : (Nat → Int32) × (Nat → Int32) × (Nat → Int32) × (Nat → Int32) × (Nat → Int32) × (Nat → Int32) × (Nat → Int64) × Int32 × Int32 × Int32 × Int32 × Int32 × Int32} (hf : f_X0_restore hs ol pr pu ta se qu im su tc sc rc cn so ct = some res) : MetV l yX0_restore cX0_restore 2 ({ frames := 2, cells := 0, slots := 0, locals := 61 } : Room) [.ref (aH 0), .ref (aS 0)] G (ty5 cI cJ cZ cO cA) e (wS cI cJ aS pr pu ta se qu im su tc sc rc cn so ++ (wH cI cJ cO aH aK hs ol ct ++ ([] : va_W))) (wS cI cJ aS res.1 res.2.1 res.2.2.1 res.2.2.2.1 res.2.2.2.2.1 res.2.2.2.2.2.1 res.2.2.2.2.2.2.1 res.2.2.2.2.2.2.2.1 res.2.2.2.2.2.2.2.2.1 res.2.2.2.2.2.2.2.2.2.1 res.2.2.2.2.2.2.2.2.2.2.1 res.2.2.2.2.2.2.2.2.2.2.2.1 ++ (wH cI cJ cO aH aK hs ol res.2.2.2.2.2.2.2.2.2.2.2.2 ++ ([] : va_W))) sz := by
  refine g_body (QQ := fun A => (qV G (ty5 cI cJ cZ cO cA) A (wS cI cJ aS res.1 res.2.1 res.2.2.1 res.2.2.2.1 res.2.2.2.2.1 res.2.2.2.2.2.1 res.2.2.2.2.2.2.1 res.2.2.2.2.2.2.2.1 res.2.2.2.2.2.2.2.2.1 res.2.2.2.2.2.2.2.2.2.1 res.2.2.2.2.2.2.2.2.2.2.1 res.2.2.2.2.2.2.2.2.2.2.2.1 ++ (wH cI cJ cO aH aK hs ol res.2.2.2.2.2.2.2.2.2.2.2.2 ++ ([] : va_W))))) (own := RX0) (by decide) rfl (Nat.le_of_ble_eq_true rfl) ?_
  intro p ev s m below meth c A ls hx hb hr hml hown hts hlk hA hP hD hS hK hE hl
  have hl : lv_has ls 2 [(0, .ref (aH 0)), (1, .ref (aS 0))] := hl
  show W p l ev ({ frames := 2, cells := 0, slots := 0, locals := 61 } : Room) s m ([.ref (aH 0), .ref (aS 0)] : List Value).toArray below meth c s.heap [] 0 0 (MQ below (qV G (ty5 cI cJ cZ cO cA) A (wS cI cJ aS res.1 res.2.1 res.2.2.1 res.2.2.2.1 res.2.2.2.2.1 res.2.2.2.2.2.1 res.2.2.2.2.2.2.1 res.2.2.2.2.2.2.2.1 res.2.2.2.2.2.2.2.2.1 res.2.2.2.2.2.2.2.2.2.1 res.2.2.2.2.2.2.2.2.2.2.1 res.2.2.2.2.2.2.2.2.2.2.2.1 ++ (wH cI cJ cO aH aK hs ol res.2.2.2.2.2.2.2.2.2.2.2.2 ++ ([] : va_W)))) ([.ref (aH 0), .ref (aS 0)] : List Value).toArray s 0 0 A) (F0 m 0 ls [])
  have h := hf
  unfold f_X0_restore at h
  refine lv_aload_n hx hb dX0_restore_0 rfl (lv_at hl 0 rfl) ?_
  refine va_get (D := G) (ci := 0) (v := .int ct) (C := RX0) (T := TX0) (N := 3) hx hb hts uX0 hown hK hP 8 rfl rfl 2 (by decide) (hts _ kw88) (fun _ h9 => h9) rfl dX0_restore_1 ?_
  refine lv_if_le (tgt := 37) hx hb dX0_restore_4 (by decide) (fun c1 => ?_) (fun c1 => ?_)
  · replace h := (if_pos c1).symm.trans h
    rw [← Option.some.inj h]
    exact krv hx hb hr hlk hP hD hS hK dX0_restore_37
  · replace h := (if_neg c1).symm.trans h
    refine lv_aload_n hx hb dX0_restore_7 rfl (lv_at hl 0 rfl) ?_
    refine lv_dup hx hb dX0_restore_8 rfl ?_
    refine va_get (D := G) (ci := 0) (v := .int ct) (C := RX0) (T := TX0) (N := 3) hx hb hts uX0 hown hK hP 8 rfl rfl 2 (by decide) (hts _ kw88) (fun _ h9 => h9) rfl dX0_restore_9 ?_
    refine lv_iconst (v := 1) hx hb dX0_restore_12 (by decide) ?_
    refine lv_isub hx hb dX0_restore_13 ?_
    refine va_put (D := G) (ci := 0) (ty := .int) (v := .int (ct - 1)) (C := RX0) (T := TX0) (N := 3) hx hb hts uX0 tyX0 tyX0_ok nmX0 hown hK hP hD hS 8 rfl rfl 2 (by decide) (hts _ kw88) (fun _ h9 => h9) rfl (by decide +kernel) rfl rfl (Nat.le_of_ble_eq_true rfl) dX0_restore_14 (fun H locs hP hD hS => ?_)
    have hP : va_P G vwCl (wS cI cJ aS pr pu ta se qu im su tc sc rc cn so ++ (wH cI cJ cO aH aK hs ol (ct - 1) ++ ([] : va_W))) H := hP
    have hD : va_D A (wS cI cJ aS pr pu ta se qu im su tc sc rc cn so ++ (wH cI cJ cO aH aK hs ol (ct - 1) ++ ([] : va_W))) := hD
    refine lv_aload_n hx hb dX0_restore_17 rfl (lv_at hl 1 rfl) ?_
    refine lv_aload_n hx hb dX0_restore_18 rfl (lv_at hl 0 rfl) ?_
    refine va_get (D := G) (ci := 0) (v := .ref (aH 1)) (C := RX0) (T := TX0) (N := 3) hx hb hts uX0 hown hK hP 8 rfl rfl 0 (by decide) (hts _ kw86) (fun _ h9 => h9) rfl dX0_restore_19 ?_
    refine lv_aload_n hx hb dX0_restore_22 rfl (lv_at hl 0 rfl) ?_
    refine va_get (D := G) (ci := 0) (v := .int ol) (C := RX0) (T := TX0) (N := 3) hx hb hts uX0 hown hK hP 8 rfl rfl 1 (by decide) (hts _ kw87) (fun _ h9 => h9) rfl dX0_restore_23 ?_
    refine lv_aload_n hx hb dX0_restore_26 rfl (lv_at hl 0 rfl) ?_
    refine va_get (D := G) (ci := 0) (v := .int (ct - 1)) (C := RX0) (T := TX0) (N := 3) hx hb hts uX0 hown hK hP 8 rfl rfl 2 (by decide) (hts _ kw88) (fun _ h9 => h9) rfl dX0_restore_27 ?_
    refine lv_iadd hx hb dX0_restore_30 ?_
    refine lv_iconst (v := 5) hx hb dX0_restore_31 (by decide) ?_
    refine lv_irem hx hb dX0_restore_32 (by decide) ?_
    obtain ⟨g3, h⟩ := gd_s h
    have k3 := ib_lt g3
    refine kald hx hb hK hP 9 3 rfl rfl rfl (ib_in g3) (hiF_at k3) dX0_restore_33 ?_
    generalize ((ol + (ct - 1)) - (ol + (ct - 1)) / 5 * 5).toNatClampNeg = i3 at h k3 ⊢
    rcases k_5 k3 with rfl | rfl | rfl | rfl | rfl
    · skip
      obtain ⟨q4, hq4, h⟩ := bd_s h
      refine kVv (n := 1) (C := RX2) (ws' := wS cI cJ aS q4.1 q4.2.1 q4.2.2.1 q4.2.2.2.1 q4.2.2.2.2.1 q4.2.2.2.2.2.1 q4.2.2.2.2.2.2.1 q4.2.2.2.2.2.2.2.1 q4.2.2.2.2.2.2.2.2.1 q4.2.2.2.2.2.2.2.2.2.1 q4.2.2.2.2.2.2.2.2.2.2.1 q4.2.2.2.2.2.2.2.2.2.2.2 ++ (wH cI cJ cO aH aK hs ol (ct - 1) ++ ([] : va_W))) (As := [.ref (aK 0 0)]) (rest := []) hx hb hml hown hts (c_X2_copyFrom l G cI cJ cZ cO cA e aS (aK 0) _ pr pu ta se qu im su tc sc rc cn so ((hs 0).1) ((hs 0).2.1) ((hs 0).2.2.1) ((hs 0).2.2.2.1) ((hs 0).2.2.2.2.1) ((hs 0).2.2.2.2.2.1) ((hs 0).2.2.2.2.2.2.1) ((hs 0).2.2.2.2.2.2.2.1) ((hs 0).2.2.2.2.2.2.2.2.1) ((hs 0).2.2.2.2.2.2.2.2.2.1) ((hs 0).2.2.2.2.2.2.2.2.2.2.1) ((hs 0).2.2.2.2.2.2.2.2.2.2.2) hq4) (tb_V kw198 kw199 kw200 kw2 kw201) rfl rfl (by decide +kernel) ⟨Nat.le_of_ble_eq_true rfl, Nat.le_of_ble_eq_true rfl⟩ hK hP hD hS hA hE 0 rfl rfl [0, 1, 2, 3, 4, 5, 6, 7, 10, 11, 12, 13, 14, 15, 16, 17] [8, 9, 18, 19, 20, 21, 22, 23, 24, 25, 26, 27, 28, 29, 30, 31, 32, 33, 34, 35, 36, 37, 38, 39, 40, 41, 42, 43, 44, 45, 46, 47, 48, 49] rfl rfl rfl 50 ⟨rfl, rfl⟩ (by decide +kernel) (by decide +kernel) rfl rfl hl.1 (Nat.le_of_ble_eq_true rfl) ⟨Nat.zero_le _, Nat.zero_le _⟩ dX0_restore_34 (fun H locs hP hD hS => ?_)
      rw [← Option.some.inj h]
      exact krv hx hb hr hlk hP hD hS hK dX0_restore_37
    · skip
      obtain ⟨q5, hq5, h⟩ := bd_s h
      refine kVv (n := 1) (C := RX2) (ws' := wS cI cJ aS q5.1 q5.2.1 q5.2.2.1 q5.2.2.2.1 q5.2.2.2.2.1 q5.2.2.2.2.2.1 q5.2.2.2.2.2.2.1 q5.2.2.2.2.2.2.2.1 q5.2.2.2.2.2.2.2.2.1 q5.2.2.2.2.2.2.2.2.2.1 q5.2.2.2.2.2.2.2.2.2.2.1 q5.2.2.2.2.2.2.2.2.2.2.2 ++ (wH cI cJ cO aH aK hs ol (ct - 1) ++ ([] : va_W))) (As := [.ref (aK 1 0)]) (rest := []) hx hb hml hown hts (c_X2_copyFrom l G cI cJ cZ cO cA e aS (aK 1) _ pr pu ta se qu im su tc sc rc cn so ((hs 1).1) ((hs 1).2.1) ((hs 1).2.2.1) ((hs 1).2.2.2.1) ((hs 1).2.2.2.2.1) ((hs 1).2.2.2.2.2.1) ((hs 1).2.2.2.2.2.2.1) ((hs 1).2.2.2.2.2.2.2.1) ((hs 1).2.2.2.2.2.2.2.2.1) ((hs 1).2.2.2.2.2.2.2.2.2.1) ((hs 1).2.2.2.2.2.2.2.2.2.2.1) ((hs 1).2.2.2.2.2.2.2.2.2.2.2) hq5) (tb_V kw198 kw199 kw200 kw2 kw201) rfl rfl (by decide +kernel) ⟨Nat.le_of_ble_eq_true rfl, Nat.le_of_ble_eq_true rfl⟩ hK hP hD hS hA hE 0 rfl rfl [0, 1, 2, 3, 4, 5, 6, 7, 18, 19, 20, 21, 22, 23, 24, 25] [8, 9, 10, 11, 12, 13, 14, 15, 16, 17, 26, 27, 28, 29, 30, 31, 32, 33, 34, 35, 36, 37, 38, 39, 40, 41, 42, 43, 44, 45, 46, 47, 48, 49] rfl rfl rfl 50 ⟨rfl, rfl⟩ (by decide +kernel) (by decide +kernel) rfl rfl hl.1 (Nat.le_of_ble_eq_true rfl) ⟨Nat.zero_le _, Nat.zero_le _⟩ dX0_restore_34 (fun H locs hP hD hS => ?_)
      rw [← Option.some.inj h]
      exact krv hx hb hr hlk hP hD hS hK dX0_restore_37
    · skip
      obtain ⟨q6, hq6, h⟩ := bd_s h
      refine kVv (n := 1) (C := RX2) (ws' := wS cI cJ aS q6.1 q6.2.1 q6.2.2.1 q6.2.2.2.1 q6.2.2.2.2.1 q6.2.2.2.2.2.1 q6.2.2.2.2.2.2.1 q6.2.2.2.2.2.2.2.1 q6.2.2.2.2.2.2.2.2.1 q6.2.2.2.2.2.2.2.2.2.1 q6.2.2.2.2.2.2.2.2.2.2.1 q6.2.2.2.2.2.2.2.2.2.2.2 ++ (wH cI cJ cO aH aK hs ol (ct - 1) ++ ([] : va_W))) (As := [.ref (aK 2 0)]) (rest := []) hx hb hml hown hts (c_X2_copyFrom l G cI cJ cZ cO cA e aS (aK 2) _ pr pu ta se qu im su tc sc rc cn so ((hs 2).1) ((hs 2).2.1) ((hs 2).2.2.1) ((hs 2).2.2.2.1) ((hs 2).2.2.2.2.1) ((hs 2).2.2.2.2.2.1) ((hs 2).2.2.2.2.2.2.1) ((hs 2).2.2.2.2.2.2.2.1) ((hs 2).2.2.2.2.2.2.2.2.1) ((hs 2).2.2.2.2.2.2.2.2.2.1) ((hs 2).2.2.2.2.2.2.2.2.2.2.1) ((hs 2).2.2.2.2.2.2.2.2.2.2.2) hq6) (tb_V kw198 kw199 kw200 kw2 kw201) rfl rfl (by decide +kernel) ⟨Nat.le_of_ble_eq_true rfl, Nat.le_of_ble_eq_true rfl⟩ hK hP hD hS hA hE 0 rfl rfl [0, 1, 2, 3, 4, 5, 6, 7, 26, 27, 28, 29, 30, 31, 32, 33] [8, 9, 10, 11, 12, 13, 14, 15, 16, 17, 18, 19, 20, 21, 22, 23, 24, 25, 34, 35, 36, 37, 38, 39, 40, 41, 42, 43, 44, 45, 46, 47, 48, 49] rfl rfl rfl 50 ⟨rfl, rfl⟩ (by decide +kernel) (by decide +kernel) rfl rfl hl.1 (Nat.le_of_ble_eq_true rfl) ⟨Nat.zero_le _, Nat.zero_le _⟩ dX0_restore_34 (fun H locs hP hD hS => ?_)
      rw [← Option.some.inj h]
      exact krv hx hb hr hlk hP hD hS hK dX0_restore_37
    · skip
      obtain ⟨q7, hq7, h⟩ := bd_s h
      refine kVv (n := 1) (C := RX2) (ws' := wS cI cJ aS q7.1 q7.2.1 q7.2.2.1 q7.2.2.2.1 q7.2.2.2.2.1 q7.2.2.2.2.2.1 q7.2.2.2.2.2.2.1 q7.2.2.2.2.2.2.2.1 q7.2.2.2.2.2.2.2.2.1 q7.2.2.2.2.2.2.2.2.2.1 q7.2.2.2.2.2.2.2.2.2.2.1 q7.2.2.2.2.2.2.2.2.2.2.2 ++ (wH cI cJ cO aH aK hs ol (ct - 1) ++ ([] : va_W))) (As := [.ref (aK 3 0)]) (rest := []) hx hb hml hown hts (c_X2_copyFrom l G cI cJ cZ cO cA e aS (aK 3) _ pr pu ta se qu im su tc sc rc cn so ((hs 3).1) ((hs 3).2.1) ((hs 3).2.2.1) ((hs 3).2.2.2.1) ((hs 3).2.2.2.2.1) ((hs 3).2.2.2.2.2.1) ((hs 3).2.2.2.2.2.2.1) ((hs 3).2.2.2.2.2.2.2.1) ((hs 3).2.2.2.2.2.2.2.2.1) ((hs 3).2.2.2.2.2.2.2.2.2.1) ((hs 3).2.2.2.2.2.2.2.2.2.2.1) ((hs 3).2.2.2.2.2.2.2.2.2.2.2) hq7) (tb_V kw198 kw199 kw200 kw2 kw201) rfl rfl (by decide +kernel) ⟨Nat.le_of_ble_eq_true rfl, Nat.le_of_ble_eq_true rfl⟩ hK hP hD hS hA hE 0 rfl rfl [0, 1, 2, 3, 4, 5, 6, 7, 34, 35, 36, 37, 38, 39, 40, 41] [8, 9, 10, 11, 12, 13, 14, 15, 16, 17, 18, 19, 20, 21, 22, 23, 24, 25, 26, 27, 28, 29, 30, 31, 32, 33, 42, 43, 44, 45, 46, 47, 48, 49] rfl rfl rfl 50 ⟨rfl, rfl⟩ (by decide +kernel) (by decide +kernel) rfl rfl hl.1 (Nat.le_of_ble_eq_true rfl) ⟨Nat.zero_le _, Nat.zero_le _⟩ dX0_restore_34 (fun H locs hP hD hS => ?_)
      rw [← Option.some.inj h]
      exact krv hx hb hr hlk hP hD hS hK dX0_restore_37
    · skip
      obtain ⟨q8, hq8, h⟩ := bd_s h
      refine kVv (n := 1) (C := RX2) (ws' := wS cI cJ aS q8.1 q8.2.1 q8.2.2.1 q8.2.2.2.1 q8.2.2.2.2.1 q8.2.2.2.2.2.1 q8.2.2.2.2.2.2.1 q8.2.2.2.2.2.2.2.1 q8.2.2.2.2.2.2.2.2.1 q8.2.2.2.2.2.2.2.2.2.1 q8.2.2.2.2.2.2.2.2.2.2.1 q8.2.2.2.2.2.2.2.2.2.2.2 ++ (wH cI cJ cO aH aK hs ol (ct - 1) ++ ([] : va_W))) (As := [.ref (aK 4 0)]) (rest := []) hx hb hml hown hts (c_X2_copyFrom l G cI cJ cZ cO cA e aS (aK 4) _ pr pu ta se qu im su tc sc rc cn so ((hs 4).1) ((hs 4).2.1) ((hs 4).2.2.1) ((hs 4).2.2.2.1) ((hs 4).2.2.2.2.1) ((hs 4).2.2.2.2.2.1) ((hs 4).2.2.2.2.2.2.1) ((hs 4).2.2.2.2.2.2.2.1) ((hs 4).2.2.2.2.2.2.2.2.1) ((hs 4).2.2.2.2.2.2.2.2.2.1) ((hs 4).2.2.2.2.2.2.2.2.2.2.1) ((hs 4).2.2.2.2.2.2.2.2.2.2.2) hq8) (tb_V kw198 kw199 kw200 kw2 kw201) rfl rfl (by decide +kernel) ⟨Nat.le_of_ble_eq_true rfl, Nat.le_of_ble_eq_true rfl⟩ hK hP hD hS hA hE 0 rfl rfl [0, 1, 2, 3, 4, 5, 6, 7, 42, 43, 44, 45, 46, 47, 48, 49] [8, 9, 10, 11, 12, 13, 14, 15, 16, 17, 18, 19, 20, 21, 22, 23, 24, 25, 26, 27, 28, 29, 30, 31, 32, 33, 34, 35, 36, 37, 38, 39, 40, 41] rfl rfl rfl 50 ⟨rfl, rfl⟩ (by decide +kernel) (by decide +kernel) rfl rfl hl.1 (Nat.le_of_ble_eq_true rfl) ⟨Nat.zero_le _, Nat.zero_le _⟩ dX0_restore_34 (fun H locs hP hD hS => ?_)
      rw [← Option.some.inj h]
      exact krv hx hb hr hlk hP hD hS hK dX0_restore_37

/-! X4_undo -/
def f_X4_undo (hs : Nat → SV) (ol : Int32) (pr : Nat → Int32) (pu : Nat → Int32) (ta : Nat → Int32) (se : Nat → Int32) (qu : Nat → Int32) (im : Nat → Int32) (su : Nat → Int64) (tc : Int32) (sc : Int32) (rc : Int32) (cn : Int32) (so : Int32) (ct : Int32) : Option (Int32 × (Nat → Int32) × (Nat → Int32) × (Nat → Int32) × (Nat → Int32) × (Nat → Int32) × (Nat → Int32) × (Nat → Int64) × Int32 × Int32 × Int32 × Int32 × Int32 × Int32) :=
  if ct = 0 then (some ((-2000000003), pr, pu, ta, se, qu, im, su, tc, sc, rc, cn, so, ct)) else ((f_X0_restore hs ol pr pu ta se qu im su tc sc rc cn so ct).bind (fun q2 => some (q2.2.2.2.2.2.2.2.2.2.2.2.2, q2.1, q2.2.1, q2.2.2.1, q2.2.2.2.1, q2.2.2.2.2.1, q2.2.2.2.2.2.1, q2.2.2.2.2.2.2.1, q2.2.2.2.2.2.2.2.1, q2.2.2.2.2.2.2.2.2.1, q2.2.2.2.2.2.2.2.2.2.1, q2.2.2.2.2.2.2.2.2.2.2.1, q2.2.2.2.2.2.2.2.2.2.2.2.1, q2.2.2.2.2.2.2.2.2.2.2.2.2)))

set_option maxHeartbeats 4000000 in
set_option maxRecDepth 100000 in
theorem c_X4_undo (l : Launch) (G : va_G) (cI cJ cZ cO cA : ClassId) (e : Nat × Nat) (aT : Nat) (aS : Nat → Nat) (aH : Nat → Nat) (aE : Nat → Nat) (aX : Nat → Nat) (aK : Nat → Nat → Nat) (sz : Nat) (pr : Nat → Int32) (pu : Nat → Int32) (ta : Nat → Int32) (se : Nat → Int32) (qu : Nat → Int32) (im : Nat → Int32) (su : Nat → Int64) (tc : Int32) (sc : Int32) (rc : Int32) (cn : Int32) (so : Int32) (hs : Nat → SV) (ol : Int32) (ct : Int32) {res : Int32 × (Nat → Int32) × (Nat → Int32) × (Nat → Int32) × (Nat → Int32) × (Nat → Int32) × (Nat → Int32) × (Nat → Int64) × Int32 × Int32 × Int32 × Int32 × Int32 × Int32} (hf : f_X4_undo hs ol pr pu ta se qu im su tc sc rc cn so ct = some res) : MetI l yX4_undo cX4_undo 1 .int ({ frames := 3, cells := 0, slots := 0, locals := 82 } : Room) [.ref aT] G (ty5 cI cJ cZ cO cA) e (wT aT (aS 0) (aH 0) (aE 0) (aX 0) ++ (wS cI cJ aS pr pu ta se qu im su tc sc rc cn so ++ (wH cI cJ cO aH aK hs ol ct ++ ([] : va_W)))) (wT aT (aS 0) (aH 0) (aE 0) (aX 0) ++ (wS cI cJ aS res.2.1 res.2.2.1 res.2.2.2.1 res.2.2.2.2.1 res.2.2.2.2.2.1 res.2.2.2.2.2.2.1 res.2.2.2.2.2.2.2.1 res.2.2.2.2.2.2.2.2.1 res.2.2.2.2.2.2.2.2.2.1 res.2.2.2.2.2.2.2.2.2.2.1 res.2.2.2.2.2.2.2.2.2.2.2.1 res.2.2.2.2.2.2.2.2.2.2.2.2.1 ++ (wH cI cJ cO aH aK hs ol res.2.2.2.2.2.2.2.2.2.2.2.2.2 ++ ([] : va_W)))) sz res.1 := by
  refine g_body (QQ := fun A => (qI G (ty5 cI cJ cZ cO cA) A (wT aT (aS 0) (aH 0) (aE 0) (aX 0) ++ (wS cI cJ aS res.2.1 res.2.2.1 res.2.2.2.1 res.2.2.2.2.1 res.2.2.2.2.2.1 res.2.2.2.2.2.2.1 res.2.2.2.2.2.2.2.1 res.2.2.2.2.2.2.2.2.1 res.2.2.2.2.2.2.2.2.2.1 res.2.2.2.2.2.2.2.2.2.2.1 res.2.2.2.2.2.2.2.2.2.2.2.1 res.2.2.2.2.2.2.2.2.2.2.2.2.1 ++ (wH cI cJ cO aH aK hs ol res.2.2.2.2.2.2.2.2.2.2.2.2.2 ++ ([] : va_W)))) res.1)) (own := RX4) (by decide) rfl (Nat.le_of_ble_eq_true rfl) ?_
  intro p ev s m below meth c A ls hx hb hr hml hown hts hlk hA hP hD hS hK hE hl
  have hl : lv_has ls 1 [(0, .ref aT)] := hl
  show W p l ev ({ frames := 3, cells := 0, slots := 0, locals := 82 } : Room) s m ([.ref aT] : List Value).toArray below meth c s.heap [] 0 0 (MQ below (qI G (ty5 cI cJ cZ cO cA) A (wT aT (aS 0) (aH 0) (aE 0) (aX 0) ++ (wS cI cJ aS res.2.1 res.2.2.1 res.2.2.2.1 res.2.2.2.2.1 res.2.2.2.2.2.1 res.2.2.2.2.2.2.1 res.2.2.2.2.2.2.2.1 res.2.2.2.2.2.2.2.2.1 res.2.2.2.2.2.2.2.2.2.1 res.2.2.2.2.2.2.2.2.2.2.1 res.2.2.2.2.2.2.2.2.2.2.2.1 res.2.2.2.2.2.2.2.2.2.2.2.2.1 ++ (wH cI cJ cO aH aK hs ol res.2.2.2.2.2.2.2.2.2.2.2.2.2 ++ ([] : va_W)))) res.1) ([.ref aT] : List Value).toArray s 0 0 A) (F0 m 0 ls [])
  have h := hf
  unfold f_X4_undo at h
  refine lv_aload_n hx hb dX4_undo_0 rfl (lv_at hl 0 rfl) ?_
  refine va_get (D := G) (ci := 4) (v := .ref (aH 0)) (C := RX4) (T := TX4) (N := 4) hx hb hts uX4 hown hK hP 0 rfl rfl 1 (by decide) (hts _ kw166) (fun _ h9 => h9) rfl dX4_undo_1 ?_
  refine va_getN (D := G) (ci := 0) (v := .int ct) (C := RX0) (T := TX0) (N := 3) hx hb hts uX0 hown hK hP 9 rfl rfl 2 (by decide) (hE.nw nk89) (fun _ h9 => h9) rfl dX4_undo_4 ?_
  refine lv_if_ne (tgt := 13) hx hb dX4_undo_7 (by decide) (fun c1 => ?_) (fun c1 => ?_)
  · replace h := (if_neg c1).symm.trans h
    refine lv_aload_n hx hb dX4_undo_13 rfl (lv_at hl 0 rfl) ?_
    refine va_get (D := G) (ci := 4) (v := .ref (aH 0)) (C := RX4) (T := TX4) (N := 4) hx hb hts uX4 hown hK hP 0 rfl rfl 1 (by decide) (hts _ kw166) (fun _ h9 => h9) rfl dX4_undo_14 ?_
    refine lv_aload_n hx hb dX4_undo_17 rfl (lv_at hl 0 rfl) ?_
    refine va_get (D := G) (ci := 4) (v := .ref (aS 0)) (C := RX4) (T := TX4) (N := 4) hx hb hts uX4 hown hK hP 0 rfl rfl 0 (by decide) (hts _ kw165) (fun _ h9 => h9) rfl dX4_undo_18 ?_
    obtain ⟨q2, hq2, h⟩ := bd_s h
    refine kVv (n := 1) (C := RX0) (ws' := wT aT (aS 0) (aH 0) (aE 0) (aX 0) ++ (wS cI cJ aS q2.1 q2.2.1 q2.2.2.1 q2.2.2.2.1 q2.2.2.2.2.1 q2.2.2.2.2.2.1 q2.2.2.2.2.2.2.1 q2.2.2.2.2.2.2.2.1 q2.2.2.2.2.2.2.2.2.1 q2.2.2.2.2.2.2.2.2.2.1 q2.2.2.2.2.2.2.2.2.2.2.1 q2.2.2.2.2.2.2.2.2.2.2.2.1 ++ (wH cI cJ cO aH aK hs ol q2.2.2.2.2.2.2.2.2.2.2.2.2 ++ ([] : va_W)))) (As := [.ref (aS 0)]) (rest := []) hx hb hml hown hts (c_X0_restore l G cI cJ cZ cO cA e aS aH aK _ pr pu ta se qu im su tc sc rc cn so hs ol ct hq2) (tb_V kw424 kw425 kw426 kw4 kw427) rfl rfl (by decide +kernel) ⟨Nat.le_of_ble_eq_true rfl, Nat.le_of_ble_eq_true rfl⟩ hK hP hD hS hA hE 9 rfl rfl [1, 2, 3, 4, 5, 6, 7, 8, 9, 10, 11, 12, 13, 14, 15, 16, 17, 18, 19, 20, 21, 22, 23, 24, 25, 26, 27, 28, 29, 30, 31, 32, 33, 34, 35, 36, 37, 38, 39, 40, 41, 42, 43, 44, 45, 46, 47, 48, 49, 50] [0] rfl rfl rfl 51 ⟨rfl, rfl⟩ (by decide +kernel) (by decide +kernel) rfl rfl hl.1 (Nat.le_of_ble_eq_true rfl) ⟨Nat.zero_le _, Nat.zero_le _⟩ dX4_undo_21 (fun H locs hP hD hS => ?_)
    refine lv_aload_n hx hb dX4_undo_24 rfl (lv_at hl 0 rfl) ?_
    refine va_get (D := G) (ci := 4) (v := .ref (aH 0)) (C := RX4) (T := TX4) (N := 4) hx hb hts uX4 hown hK hP 0 rfl rfl 1 (by decide) (hts _ kw166) (fun _ h9 => h9) rfl dX4_undo_25 ?_
    refine va_getN (D := G) (ci := 0) (v := .int q2.2.2.2.2.2.2.2.2.2.2.2.2) (C := RX0) (T := TX0) (N := 3) hx hb hts uX0 hown hK hP 9 rfl rfl 2 (by decide) (hE.nw nk89) (fun _ h9 => h9) rfl dX4_undo_28 ?_
    rw [← Option.some.inj h]
    exact kri hx hb hr hlk rfl rfl hP hD hS hK dX4_undo_31
  · replace h := (if_pos c1).symm.trans h
    refine lv_ldc (v := (-2000000003)) hx hb hown (hts _ kw275) dX4_undo_10 ?_
    rw [← Option.some.inj h]
    exact kri hx hb hr hlk rfl rfl hP hD hS hK dX4_undo_12

/-! X3_skipBlanks -/
def f_X3_skipBlanks_b0 (bt : Nat → Int32) (le : Int32) (z1 : Int32) : Option ((Int32) ⊕ (Int32)) :=
  if le ≤ z1 then (some (Sum.inr z1)) else (gd (ib z1 100) (if (bt z1.toNatClampNeg) = 32 then (some (Sum.inl (z1 + 1))) else (some (Sum.inr z1))))
def f_X3_skipBlanks (bt : Nat → Int32) (le : Int32) (ax : Int32) : Option (Int32) :=
  (lp (f_X3_skipBlanks_b0 bt le) 1000 ax).bind (fun q1 => some q1)

set_option maxHeartbeats 4000000 in
set_option maxRecDepth 100000 in
theorem c_X3_skipBlanks (l : Launch) (G : va_G) (cI cJ cZ cO cA : ClassId) (e : Nat × Nat) (aX : Nat → Nat) (sz : Nat) (bt : Nat → Int32) (pa : Nat → Int32) (ug : Nat → Int32) (le : Int32) (rn : Int32) (ax : Int32) (fa : Int32) {res : Int32} (hf : f_X3_skipBlanks bt le ax = some res) : MetV l yX3_skipBlanks cX3_skipBlanks 1 ({ frames := 0, cells := 0, slots := 0, locals := 0 } : Room) [.ref (aX 0)] G (ty5 cI cJ cZ cO cA) e (wX cI cZ aX bt pa ug le rn ax fa ++ ([] : va_W)) (wX cI cZ aX bt pa ug le rn res fa ++ ([] : va_W)) sz := by
  refine g_body (QQ := fun A => (qV G (ty5 cI cJ cZ cO cA) A (wX cI cZ aX bt pa ug le rn res fa ++ ([] : va_W)))) (own := RX3) (by decide) rfl (Nat.le_of_ble_eq_true rfl) ?_
  intro p ev s m below meth c A ls hx hb hr hml hown hts hlk hA hP hD hS hK hE hl
  have hl : lv_has ls 1 [(0, .ref (aX 0))] := hl
  show W p l ev ({ frames := 0, cells := 0, slots := 0, locals := 0 } : Room) s m ([.ref (aX 0)] : List Value).toArray below meth c s.heap [] 0 0 (MQ below (qV G (ty5 cI cJ cZ cO cA) A (wX cI cZ aX bt pa ug le rn res fa ++ ([] : va_W))) ([.ref (aX 0)] : List Value).toArray s 0 0 A) (F0 m 0 ls [])
  have h := hf
  unfold f_X3_skipBlanks at h
  obtain ⟨q1, hq1, h⟩ := bd_s h
  have hX1_0 : ∀ (x1 : Int32) (H : Heap) (locs : List Loc) (ls : Array Slot), x1 = q1 → va_P G vwCl (wX cI cZ aX bt pa ug le rn x1 fa ++ ([] : va_W)) H → va_D A (wX cI cZ aX bt pa ug le rn x1 fa ++ ([] : va_W)) → va_S A s.heap H locs → lv_has ls 1 [] → W p l ev ({ frames := 0, cells := 0, slots := 0, locals := 0 } : Room) s m ([.ref (aX 0)] : List Value).toArray below meth c H locs 0 0 (MQ below (qV G (ty5 cI cJ cZ cO cA) A (wX cI cZ aX bt pa ug le rn res fa ++ ([] : va_W))) ([.ref (aX 0)] : List Value).toArray s 0 0 A) (F0 m 38 ls []) := by
    intro x1 H locs ls e1 hP hD hS hl
    replace e1 := e1.symm
    subst e1
    rw [← Option.some.inj h]
    exact krv hx hb hr hlk hP hD hS hK dX3_skipBlanks_38
  have hL1 : ∀ (n : Nat) (z1 : Int32) (H : Heap) (locs : List Loc) (ls : Array Slot), lp (f_X3_skipBlanks_b0 bt le) n z1 = some q1 → va_P G vwCl (wX cI cZ aX bt pa ug le rn z1 fa ++ ([] : va_W)) H → va_D A (wX cI cZ aX bt pa ug le rn z1 fa ++ ([] : va_W)) → va_S A s.heap H locs → lv_has ls 1 [(0, .ref (aX 0))] → W p l ev ({ frames := 0, cells := 0, slots := 0, locals := 0 } : Room) s m ([.ref (aX 0)] : List Value).toArray below meth c H locs 0 0 (MQ below (qV G (ty5 cI cJ cZ cO cA) A (wX cI cZ aX bt pa ug le rn res fa ++ ([] : va_W))) ([.ref (aX 0)] : List Value).toArray s 0 0 A) (F0 m 0 ls []) := by
    intro n
    induction n with
    | zero => intro z1 H locs ls h; cases h
    | succ n ih1 =>
      intro z1 H locs ls h hP hD hS hl
      obtain ⟨o1, h, h1⟩ := lp_s h
      unfold f_X3_skipBlanks_b0 at h
      refine lv_aload_n hx hb dX3_skipBlanks_0 rfl (lv_at hl 0 rfl) ?_
      refine va_get (D := G) (ci := 3) (v := .int z1) (C := RX3) (T := TX3) (N := 7) hx hb hts uX3 hown hK hP 0 rfl rfl 5 (by decide) (hts _ kw147) (fun _ h9 => h9) rfl dX3_skipBlanks_1 ?_
      refine lv_aload_n hx hb dX3_skipBlanks_4 rfl (lv_at hl 0 rfl) ?_
      refine va_get (D := G) (ci := 3) (v := .int le) (C := RX3) (T := TX3) (N := 7) hx hb hts uX3 hown hK hP 0 rfl rfl 3 (by decide) (hts _ kw144) (fun _ h9 => h9) rfl dX3_skipBlanks_5 ?_
      refine lv_icmp_ge (tgt := 38) hx hb dX3_skipBlanks_8 (by decide) (fun c2 => ?_) (fun c2 => ?_)
      · replace h := (if_pos c2).symm.trans h
        rw [← Option.some.inj h] at h1
        exact hX1_0 z1 _ _ _ (lp_x h1) hP hD hS (lv_sub hl [] rfl)
      · replace h := (if_neg c2).symm.trans h
        refine lv_aload_n hx hb dX3_skipBlanks_11 rfl (lv_at hl 0 rfl) ?_
        refine va_get (D := G) (ci := 3) (v := .ref (aX 1)) (C := RX3) (T := TX3) (N := 7) hx hb hts uX3 hown hK hP 0 rfl rfl 0 (by decide) (hts _ kw139) (fun _ h9 => h9) rfl dX3_skipBlanks_12 ?_
        refine lv_aload_n hx hb dX3_skipBlanks_15 rfl (lv_at hl 0 rfl) ?_
        refine va_get (D := G) (ci := 3) (v := .int z1) (C := RX3) (T := TX3) (N := 7) hx hb hts uX3 hown hK hP 0 rfl rfl 5 (by decide) (hts _ kw147) (fun _ h9 => h9) rfl dX3_skipBlanks_16 ?_
        obtain ⟨g3, h⟩ := gd_s h
        refine va_iald hx hb hK hP 1 0 rfl rfl (ib_in g3) dX3_skipBlanks_19 ?_
        refine lv_bipush (v := 32) hx hb dX3_skipBlanks_20 (by decide) ?_
        refine lv_icmp_ne (tgt := 38) hx hb dX3_skipBlanks_22 (by decide) (fun c4 => ?_) (fun c4 => ?_)
        · replace h := (if_neg c4).symm.trans h
          rw [← Option.some.inj h] at h1
          exact hX1_0 z1 _ _ _ (lp_x h1) hP hD hS (lv_sub hl [] rfl)
        · replace h := (if_pos c4).symm.trans h
          refine lv_aload_n hx hb dX3_skipBlanks_25 rfl (lv_at hl 0 rfl) ?_
          refine lv_dup hx hb dX3_skipBlanks_26 rfl ?_
          refine va_get (D := G) (ci := 3) (v := .int z1) (C := RX3) (T := TX3) (N := 7) hx hb hts uX3 hown hK hP 0 rfl rfl 5 (by decide) (hts _ kw147) (fun _ h9 => h9) rfl dX3_skipBlanks_27 ?_
          refine lv_iconst (v := 1) hx hb dX3_skipBlanks_30 (by decide) ?_
          refine lv_iadd hx hb dX3_skipBlanks_31 ?_
          refine va_put (D := G) (ci := 3) (ty := .int) (v := .int (z1 + 1)) (C := RX3) (T := TX3) (N := 7) hx hb hts uX3 tyX3 tyX3_ok nmX3 hown hK hP hD hS 0 rfl rfl 5 (by decide) (hts _ kw147) (fun _ h9 => h9) rfl (by decide +kernel) rfl rfl (Nat.le_of_ble_eq_true rfl) dX3_skipBlanks_32 (fun H locs hP hD hS => ?_)
          have hP : va_P G vwCl (wX cI cZ aX bt pa ug le rn (z1 + 1) fa ++ ([] : va_W)) H := hP
          have hD : va_D A (wX cI cZ aX bt pa ug le rn (z1 + 1) fa ++ ([] : va_W)) := hD
          refine lv_goto (tgt := 0) hx hb dX3_skipBlanks_35 (by decide) ?_
          rw [← Option.some.inj h] at h1
          exact ih1 (z1 + 1) _ _ _ (lp_b h1) hP hD hS (lv_sub hl [0] rfl)
  exact hL1 _ ax _ _ _ hq1 hP hD hS (lv_sub hl [0] rfl)

/-! X3_accept -/
def f_X3_accept (bt : Nat → Int32) (le : Int32) (ax : Int32) (p0 : Int32) : Option (Int32 × Int32) :=
  (f_X3_skipBlanks bt le ax).bind (fun q1 => if le ≤ q1 then (some (0, q1)) else (gd (ib q1 100) (if (bt q1.toNatClampNeg) = p0 then (some (1, (q1 + 1))) else (some (0, q1)))))

set_option maxHeartbeats 4000000 in
set_option maxRecDepth 100000 in
theorem c_X3_accept (l : Launch) (G : va_G) (cI cJ cZ cO cA : ClassId) (e : Nat × Nat) (aX : Nat → Nat) (sz : Nat) (bt : Nat → Int32) (pa : Nat → Int32) (ug : Nat → Int32) (le : Int32) (rn : Int32) (ax : Int32) (fa : Int32) (p0 : Int32) {res : Int32 × Int32} (hf : f_X3_accept bt le ax p0 = some res) : MetI l yX3_accept cX3_accept 2 .boolean ({ frames := 1, cells := 0, slots := 0, locals := 20 } : Room) [.ref (aX 0), .int p0] G (ty5 cI cJ cZ cO cA) e (wX cI cZ aX bt pa ug le rn ax fa ++ ([] : va_W)) (wX cI cZ aX bt pa ug le rn res.2 fa ++ ([] : va_W)) sz res.1 := by
  refine g_body (QQ := fun A => (qI G (ty5 cI cJ cZ cO cA) A (wX cI cZ aX bt pa ug le rn res.2 fa ++ ([] : va_W)) res.1)) (own := RX3) (by decide) rfl (Nat.le_of_ble_eq_true rfl) ?_
  intro p ev s m below meth c A ls hx hb hr hml hown hts hlk hA hP hD hS hK hE hl
  have hl : lv_has ls 2 [(0, .ref (aX 0)), (1, .int p0)] := hl
  show W p l ev ({ frames := 1, cells := 0, slots := 0, locals := 20 } : Room) s m ([.ref (aX 0), .int p0] : List Value).toArray below meth c s.heap [] 0 0 (MQ below (qI G (ty5 cI cJ cZ cO cA) A (wX cI cZ aX bt pa ug le rn res.2 fa ++ ([] : va_W)) res.1) ([.ref (aX 0), .int p0] : List Value).toArray s 0 0 A) (F0 m 0 ls [])
  have h := hf
  unfold f_X3_accept at h
  refine lv_aload_n hx hb dX3_accept_0 rfl (lv_at hl 0 rfl) ?_
  obtain ⟨q1, hq1, h⟩ := bd_s h
  refine kVv (n := 0) (C := RX3) (ws' := wX cI cZ aX bt pa ug le rn q1 fa ++ ([] : va_W)) (As := []) (rest := []) hx hb hml hown hts (c_X3_skipBlanks l G cI cJ cZ cO cA e aX _ bt pa ug le rn ax fa hq1) (tb_V kw441 kw443 kv8 kw6 kw444) rfl rfl (by decide +kernel) ⟨Nat.le_of_ble_eq_true rfl, Nat.le_of_ble_eq_true rfl⟩ hK hP hD hS hA hE 0 rfl rfl [0, 1, 2, 3] [] rfl rfl rfl 4 ⟨rfl, rfl⟩ (by decide +kernel) (by decide +kernel) rfl rfl hl.1 (Nat.le_of_ble_eq_true rfl) ⟨Nat.zero_le _, Nat.zero_le _⟩ dX3_accept_1 (fun H locs hP hD hS => ?_)
  refine lv_aload_n hx hb dX3_accept_4 rfl (lv_at hl 0 rfl) ?_
  refine va_get (D := G) (ci := 3) (v := .int q1) (C := RX3) (T := TX3) (N := 7) hx hb hts uX3 hown hK hP 0 rfl rfl 5 (by decide) (hts _ kw147) (fun _ h9 => h9) rfl dX3_accept_5 ?_
  refine lv_aload_n hx hb dX3_accept_8 rfl (lv_at hl 0 rfl) ?_
  refine va_get (D := G) (ci := 3) (v := .int le) (C := RX3) (T := TX3) (N := 7) hx hb hts uX3 hown hK hP 0 rfl rfl 3 (by decide) (hts _ kw144) (fun _ h9 => h9) rfl dX3_accept_9 ?_
  refine lv_icmp_ge (tgt := 28) hx hb dX3_accept_12 (by decide) (fun c2 => ?_) (fun c2 => ?_)
  · replace h := (if_pos c2).symm.trans h
    refine lv_iconst (v := 0) hx hb dX3_accept_28 (by decide) ?_
    rw [← Option.some.inj h]
    exact kri hx hb hr hlk rfl rfl hP hD hS hK dX3_accept_29
  · replace h := (if_neg c2).symm.trans h
    refine lv_aload_n hx hb dX3_accept_15 rfl (lv_at hl 0 rfl) ?_
    refine va_get (D := G) (ci := 3) (v := .ref (aX 1)) (C := RX3) (T := TX3) (N := 7) hx hb hts uX3 hown hK hP 0 rfl rfl 0 (by decide) (hts _ kw139) (fun _ h9 => h9) rfl dX3_accept_16 ?_
    refine lv_aload_n hx hb dX3_accept_19 rfl (lv_at hl 0 rfl) ?_
    refine va_get (D := G) (ci := 3) (v := .int q1) (C := RX3) (T := TX3) (N := 7) hx hb hts uX3 hown hK hP 0 rfl rfl 5 (by decide) (hts _ kw147) (fun _ h9 => h9) rfl dX3_accept_20 ?_
    obtain ⟨g3, h⟩ := gd_s h
    refine va_iald hx hb hK hP 1 0 rfl rfl (ib_in g3) dX3_accept_23 ?_
    refine lv_iload_n hx hb dX3_accept_24 rfl (lv_at hl 1 rfl) ?_
    refine lv_icmp_eq (tgt := 30) hx hb dX3_accept_25 (by decide) (fun c4 => ?_) (fun c4 => ?_)
    · replace h := (if_pos c4).symm.trans h
      refine lv_aload_n hx hb dX3_accept_30 rfl (lv_at hl 0 rfl) ?_
      refine lv_dup hx hb dX3_accept_31 rfl ?_
      refine va_get (D := G) (ci := 3) (v := .int q1) (C := RX3) (T := TX3) (N := 7) hx hb hts uX3 hown hK hP 0 rfl rfl 5 (by decide) (hts _ kw147) (fun _ h9 => h9) rfl dX3_accept_32 ?_
      refine lv_iconst (v := 1) hx hb dX3_accept_35 (by decide) ?_
      refine lv_iadd hx hb dX3_accept_36 ?_
      refine va_put (D := G) (ci := 3) (ty := .int) (v := .int (q1 + 1)) (C := RX3) (T := TX3) (N := 7) hx hb hts uX3 tyX3 tyX3_ok nmX3 hown hK hP hD hS 0 rfl rfl 5 (by decide) (hts _ kw147) (fun _ h9 => h9) rfl (by decide +kernel) rfl rfl (Nat.le_of_ble_eq_true rfl) dX3_accept_37 (fun H locs hP hD hS => ?_)
      have hP : va_P G vwCl (wX cI cZ aX bt pa ug le rn (q1 + 1) fa ++ ([] : va_W)) H := hP
      have hD : va_D A (wX cI cZ aX bt pa ug le rn (q1 + 1) fa ++ ([] : va_W)) := hD
      refine lv_iconst (v := 1) hx hb dX3_accept_40 (by decide) ?_
      rw [← Option.some.inj h]
      exact kri hx hb hr hlk rfl rfl hP hD hS hK dX3_accept_41
    · replace h := (if_neg c4).symm.trans h
      refine lv_iconst (v := 0) hx hb dX3_accept_28 (by decide) ?_
      rw [← Option.some.inj h]
      exact kri hx hb hr hlk rfl rfl hP hD hS hK dX3_accept_29

/-! X3_isDigit -/
def f_X3_isDigit (p0 : Int32) : Option (Int32) :=
  if p0 < 48 then (some 0) else (if 57 < p0 then (some 0) else (some 1))

set_option maxHeartbeats 4000000 in
set_option maxRecDepth 100000 in
theorem c_X3_isDigit (l : Launch) (G : va_G) (cI cJ cZ cO cA : ClassId) (e : Nat × Nat) (sz : Nat) (p0 : Int32) {res : Int32} (hf : f_X3_isDigit p0 = some res) : MetI l yX3_isDigit cX3_isDigit 1 .boolean ({ frames := 0, cells := 0, slots := 0, locals := 0 } : Room) [.int p0] G (ty5 cI cJ cZ cO cA) e (([] : va_W)) (([] : va_W)) sz res := by
  refine g_body (QQ := fun A => (qI G (ty5 cI cJ cZ cO cA) A (([] : va_W)) res)) (own := RX3) (by decide) rfl (Nat.le_of_ble_eq_true rfl) ?_
  intro p ev s m below meth c A ls hx hb hr hml hown hts hlk hA hP hD hS hK hE hl
  have hl : lv_has ls 1 [(0, .int p0)] := hl
  show W p l ev ({ frames := 0, cells := 0, slots := 0, locals := 0 } : Room) s m ([.int p0] : List Value).toArray below meth c s.heap [] 0 0 (MQ below (qI G (ty5 cI cJ cZ cO cA) A (([] : va_W)) res) ([.int p0] : List Value).toArray s 0 0 A) (F0 m 0 ls [])
  have h := hf
  unfold f_X3_isDigit at h
  refine lv_iload_n hx hb dX3_isDigit_0 rfl (lv_at hl 0 rfl) ?_
  refine lv_bipush (v := 48) hx hb dX3_isDigit_1 (by decide) ?_
  refine lv_icmp_lt (tgt := 16) hx hb dX3_isDigit_3 (by decide) (fun c1 => ?_) (fun c1 => ?_)
  · replace h := (if_pos c1).symm.trans h
    refine lv_iconst (v := 0) hx hb dX3_isDigit_16 (by decide) ?_
    rw [← Option.some.inj h]
    exact kri hx hb hr hlk rfl rfl hP hD hS hK dX3_isDigit_17
  · replace h := (if_neg c1).symm.trans h
    refine lv_iload_n hx hb dX3_isDigit_6 rfl (lv_at hl 0 rfl) ?_
    refine lv_bipush (v := 57) hx hb dX3_isDigit_7 (by decide) ?_
    refine lv_icmp_gt (tgt := 16) hx hb dX3_isDigit_9 (by decide) (fun c2 => ?_) (fun c2 => ?_)
    · replace h := (if_pos c2).symm.trans h
      refine lv_iconst (v := 0) hx hb dX3_isDigit_16 (by decide) ?_
      rw [← Option.some.inj h]
      exact kri hx hb hr hlk rfl rfl hP hD hS hK dX3_isDigit_17
    · replace h := (if_neg c2).symm.trans h
      refine lv_iconst (v := 1) hx hb dX3_isDigit_12 (by decide) ?_
      refine lv_goto (tgt := 17) hx hb dX3_isDigit_13 (by decide) ?_
      rw [← Option.some.inj h]
      exact kri hx hb hr hlk rfl rfl hP hD hS hK dX3_isDigit_17

/-! X3_readNumber -/
def f_X3_readNumber_b7 (bt : Nat → Int32) (le : Int32) (z1 : Int32 × Int32) : Option ((Int32 × Int32) ⊕ (Int32 × Int32)) :=
  if le ≤ z1.1 then (some (Sum.inr (z1.1, z1.2))) else (gd (ib z1.1 100) ((f_X3_isDigit (bt z1.1.toNatClampNeg)).bind (fun q4 => if q4 = 0 then (some (Sum.inr (z1.1, z1.2))) else (gd (ib z1.1 100) (some (Sum.inl ((z1.1 + 1), (((z1.2 * 10) + (bt z1.1.toNatClampNeg)) - 48))))))))
def f_X3_readNumber_j87 (ax : Int32) (v1 : Int32) (v2 : Int32) : Option (Int32 × Int32 × Int32) :=
  some (v2, ax, v1)
def f_X3_readNumber (bt : Nat → Int32) (le : Int32) (ax : Int32) (fa : Int32) : Option (Int32 × Int32 × Int32) :=
  (lp (f_X3_readNumber_b7 bt le) 1000 (ax, 0)).bind (fun q1 => if (q1.1 - ax) = 0 then (f_X3_readNumber_j87 q1.1 ax q1.2) else (if 4 < (q1.1 - ax) then (f_X3_readNumber_j87 q1.1 ax q1.2) else (if q1.2 ≤ 2000 then (some (q1.2, q1.1, fa)) else (f_X3_readNumber_j87 q1.1 ax q1.2))))

set_option maxHeartbeats 4000000 in
set_option maxRecDepth 100000 in
theorem c_X3_readNumber (l : Launch) (G : va_G) (cI cJ cZ cO cA : ClassId) (e : Nat × Nat) (aX : Nat → Nat) (sz : Nat) (bt : Nat → Int32) (pa : Nat → Int32) (ug : Nat → Int32) (le : Int32) (rn : Int32) (ax : Int32) (fa : Int32) {res : Int32 × Int32 × Int32} (hf : f_X3_readNumber bt le ax fa = some res) : MetI l yX3_readNumber cX3_readNumber 4 .int ({ frames := 1, cells := 0, slots := 0, locals := 20 } : Room) [.ref (aX 0)] G (ty5 cI cJ cZ cO cA) e (wX cI cZ aX bt pa ug le rn ax fa ++ ([] : va_W)) (wX cI cZ aX bt pa ug le rn res.2.1 res.2.2 ++ ([] : va_W)) sz res.1 := by
  refine g_body (QQ := fun A => (qI G (ty5 cI cJ cZ cO cA) A (wX cI cZ aX bt pa ug le rn res.2.1 res.2.2 ++ ([] : va_W)) res.1)) (own := RX3) (by decide) rfl (Nat.le_of_ble_eq_true rfl) ?_
  intro p ev s m below meth c A ls hx hb hr hml hown hts hlk hA hP hD hS hK hE hl
  have hl : lv_has ls 4 [(0, .ref (aX 0))] := hl
  show W p l ev ({ frames := 1, cells := 0, slots := 0, locals := 20 } : Room) s m ([.ref (aX 0)] : List Value).toArray below meth c s.heap [] 0 0 (MQ below (qI G (ty5 cI cJ cZ cO cA) A (wX cI cZ aX bt pa ug le rn res.2.1 res.2.2 ++ ([] : va_W)) res.1) ([.ref (aX 0)] : List Value).toArray s 0 0 A) (F0 m 0 ls [])
  have h := hf
  unfold f_X3_readNumber at h
  refine lv_aload_n hx hb dX3_readNumber_0 rfl (lv_at hl 0 rfl) ?_
  refine va_get (D := G) (ci := 3) (v := .int ax) (C := RX3) (T := TX3) (N := 7) hx hb hts uX3 hown hK hP 0 rfl rfl 5 (by decide) (hts _ kw147) (fun _ h9 => h9) rfl dX3_readNumber_1 ?_
  refine lv_istore_n (lv' := [(1, .int ax), (0, .ref (aX 0))]) hx hb dX3_readNumber_4 rfl hl (by decide) rfl (fun ls hl => ?_)
  refine lv_iconst (v := 0) hx hb dX3_readNumber_5 (by decide) ?_
  refine lv_istore_n (lv' := [(2, .int 0), (1, .int ax), (0, .ref (aX 0))]) hx hb dX3_readNumber_6 rfl hl (by decide) rfl (fun ls hl => ?_)
  obtain ⟨q1, hq1, h⟩ := bd_s h
  have hX1_0 : ∀ (x1 : Int32 × Int32) (H : Heap) (locs : List Loc) (ls : Array Slot), x1 = q1 → va_P G vwCl (wX cI cZ aX bt pa ug le rn x1.1 fa ++ ([] : va_W)) H → va_D A (wX cI cZ aX bt pa ug le rn x1.1 fa ++ ([] : va_W)) → va_S A s.heap H locs → lv_has ls 4 [(0, .ref (aX 0)), (1, .int ax), (2, .int x1.2)] → W p l ev ({ frames := 1, cells := 0, slots := 0, locals := 20 } : Room) s m ([.ref (aX 0)] : List Value).toArray below meth c H locs 0 0 (MQ below (qI G (ty5 cI cJ cZ cO cA) A (wX cI cZ aX bt pa ug le rn res.2.1 res.2.2 ++ ([] : va_W)) res.1) ([.ref (aX 0)] : List Value).toArray s 0 0 A) (F0 m 64 ls []) := by
    intro x1 H locs ls e1 hP hD hS hl
    replace e1 := e1.symm
    subst e1
    refine lv_aload_n hx hb dX3_readNumber_64 rfl (lv_at hl 0 rfl) ?_
    refine va_get (D := G) (ci := 3) (v := .int q1.1) (C := RX3) (T := TX3) (N := 7) hx hb hts uX3 hown hK hP 0 rfl rfl 5 (by decide) (hts _ kw147) (fun _ h9 => h9) rfl dX3_readNumber_65 ?_
    refine lv_iload_n hx hb dX3_readNumber_68 rfl (lv_at hl 1 rfl) ?_
    refine lv_isub hx hb dX3_readNumber_69 ?_
    refine lv_istore_n (lv' := [(3, .int (q1.1 - ax)), (0, .ref (aX 0)), (1, .int ax), (2, .int q1.2)]) hx hb dX3_readNumber_70 rfl hl (by decide) rfl (fun ls hl => ?_)
    refine lv_iload_n hx hb dX3_readNumber_71 rfl (lv_at hl 0 rfl) ?_
    have hJ8 : ∀ (ax_8 : Int32) (fa_8 : Int32) (v1_8 : Int32) (v2_8 : Int32) (H : Heap) (locs : List Loc) (ls : Array Slot), f_X3_readNumber_j87 ax_8 v1_8 v2_8 = some res → va_P G vwCl (wX cI cZ aX bt pa ug le rn ax_8 fa_8 ++ ([] : va_W)) H → va_D A (wX cI cZ aX bt pa ug le rn ax_8 fa_8 ++ ([] : va_W)) → va_S A s.heap H locs → lv_has ls 4 [(0, .ref (aX 0)), (1, .int v1_8), (2, .int v2_8)] → W p l ev ({ frames := 1, cells := 0, slots := 0, locals := 20 } : Room) s m ([.ref (aX 0)] : List Value).toArray below meth c H locs 0 0 (MQ below (qI G (ty5 cI cJ cZ cO cA) A (wX cI cZ aX bt pa ug le rn res.2.1 res.2.2 ++ ([] : va_W)) res.1) ([.ref (aX 0)] : List Value).toArray s 0 0 A) (F0 m 87 ls []) := by
      intro ax_8 fa_8 v1_8 v2_8 H locs ls h hP hD hS hl
      unfold f_X3_readNumber_j87 at h
      refine lv_aload_n hx hb dX3_readNumber_87 rfl (lv_at hl 0 rfl) ?_
      refine lv_iload_n hx hb dX3_readNumber_88 rfl (lv_at hl 1 rfl) ?_
      refine va_put (D := G) (ci := 3) (ty := .int) (v := .int v1_8) (C := RX3) (T := TX3) (N := 7) hx hb hts uX3 tyX3 tyX3_ok nmX3 hown hK hP hD hS 0 rfl rfl 6 (by decide) (hts _ kw148) (fun _ h9 => h9) rfl (by decide +kernel) rfl rfl (Nat.le_of_ble_eq_true rfl) dX3_readNumber_89 (fun H locs hP hD hS => ?_)
      have hP : va_P G vwCl (wX cI cZ aX bt pa ug le rn ax_8 v1_8 ++ ([] : va_W)) H := hP
      have hD : va_D A (wX cI cZ aX bt pa ug le rn ax_8 v1_8 ++ ([] : va_W)) := hD
      refine lv_iload_n hx hb dX3_readNumber_92 rfl (lv_at hl 2 rfl) ?_
      rw [← Option.some.inj h]
      exact kri hx hb hr hlk rfl rfl hP hD hS hK dX3_readNumber_93
    refine lv_if_eq (tgt := 87) hx hb dX3_readNumber_72 (by decide) (fun c7 => ?_) (fun c7 => ?_)
    · replace h := (if_pos c7).symm.trans h
      exact hJ8 q1.1 fa ax q1.2 _ _ _ h hP hD hS (lv_sub hl [1, 2, 3] rfl)
    · replace h := (if_neg c7).symm.trans h
      refine lv_iload_n hx hb dX3_readNumber_75 rfl (lv_at hl 0 rfl) ?_
      refine lv_iconst (v := 4) hx hb dX3_readNumber_76 (by decide) ?_
      refine lv_icmp_gt (tgt := 87) hx hb dX3_readNumber_77 (by decide) (fun c9 => ?_) (fun c9 => ?_)
      · replace h := (if_pos c9).symm.trans h
        exact hJ8 q1.1 fa ax q1.2 _ _ _ h hP hD hS (lv_sub hl [1, 2, 3] rfl)
      · replace h := (if_neg c9).symm.trans h
        refine lv_iload_n hx hb dX3_readNumber_80 rfl (lv_at hl 3 rfl) ?_
        refine lv_sipush (v := 2000) hx hb dX3_readNumber_81 (by decide) ?_
        refine lv_icmp_le (tgt := 92) hx hb dX3_readNumber_84 (by decide) (fun c10 => ?_) (fun c10 => ?_)
        · replace h := (if_pos c10).symm.trans h
          refine lv_iload_n hx hb dX3_readNumber_92 rfl (lv_at hl 3 rfl) ?_
          rw [← Option.some.inj h]
          exact kri hx hb hr hlk rfl rfl hP hD hS hK dX3_readNumber_93
        · replace h := (if_neg c10).symm.trans h
          exact hJ8 q1.1 fa ax q1.2 _ _ _ h hP hD hS (lv_sub hl [1, 2, 3] rfl)
  have hL1 : ∀ (n : Nat) (z1 : Int32 × Int32) (H : Heap) (locs : List Loc) (ls : Array Slot), lp (f_X3_readNumber_b7 bt le) n z1 = some q1 → va_P G vwCl (wX cI cZ aX bt pa ug le rn z1.1 fa ++ ([] : va_W)) H → va_D A (wX cI cZ aX bt pa ug le rn z1.1 fa ++ ([] : va_W)) → va_S A s.heap H locs → lv_has ls 4 [(0, .ref (aX 0)), (1, .int ax), (2, .int z1.2)] → W p l ev ({ frames := 1, cells := 0, slots := 0, locals := 20 } : Room) s m ([.ref (aX 0)] : List Value).toArray below meth c H locs 0 0 (MQ below (qI G (ty5 cI cJ cZ cO cA) A (wX cI cZ aX bt pa ug le rn res.2.1 res.2.2 ++ ([] : va_W)) res.1) ([.ref (aX 0)] : List Value).toArray s 0 0 A) (F0 m 7 ls []) := by
    intro n
    induction n with
    | zero => intro z1 H locs ls h; cases h
    | succ n ih1 =>
      intro z1 H locs ls h hP hD hS hl
      obtain ⟨o1, h, h1⟩ := lp_s h
      unfold f_X3_readNumber_b7 at h
      refine lv_aload_n hx hb dX3_readNumber_7 rfl (lv_at hl 0 rfl) ?_
      refine va_get (D := G) (ci := 3) (v := .int z1.1) (C := RX3) (T := TX3) (N := 7) hx hb hts uX3 hown hK hP 0 rfl rfl 5 (by decide) (hts _ kw147) (fun _ h9 => h9) rfl dX3_readNumber_8 ?_
      refine lv_aload_n hx hb dX3_readNumber_11 rfl (lv_at hl 0 rfl) ?_
      refine va_get (D := G) (ci := 3) (v := .int le) (C := RX3) (T := TX3) (N := 7) hx hb hts uX3 hown hK hP 0 rfl rfl 3 (by decide) (hts _ kw144) (fun _ h9 => h9) rfl dX3_readNumber_12 ?_
      refine lv_icmp_ge (tgt := 64) hx hb dX3_readNumber_15 (by decide) (fun c2 => ?_) (fun c2 => ?_)
      · replace h := (if_pos c2).symm.trans h
        rw [← Option.some.inj h] at h1
        exact hX1_0 (z1.1, z1.2) _ _ _ (lp_x h1) hP hD hS (lv_sub hl [0, 1, 2] rfl)
      · replace h := (if_neg c2).symm.trans h
        refine lv_aload_n hx hb dX3_readNumber_18 rfl (lv_at hl 0 rfl) ?_
        refine va_get (D := G) (ci := 3) (v := .ref (aX 1)) (C := RX3) (T := TX3) (N := 7) hx hb hts uX3 hown hK hP 0 rfl rfl 0 (by decide) (hts _ kw139) (fun _ h9 => h9) rfl dX3_readNumber_19 ?_
        refine lv_aload_n hx hb dX3_readNumber_22 rfl (lv_at hl 0 rfl) ?_
        refine va_get (D := G) (ci := 3) (v := .int z1.1) (C := RX3) (T := TX3) (N := 7) hx hb hts uX3 hown hK hP 0 rfl rfl 5 (by decide) (hts _ kw147) (fun _ h9 => h9) rfl dX3_readNumber_23 ?_
        obtain ⟨g3, h⟩ := gd_s h
        refine va_iald hx hb hK hP 1 0 rfl rfl (ib_in g3) dX3_readNumber_26 ?_
        obtain ⟨q4, hq4, h⟩ := bd_s h
        refine kSi (n := 1) (As := [.int (bt z1.1.toNatClampNeg)]) (rest := []) hx hb hml hown hts (c_X3_isDigit l G cI cJ cZ cO cA e _ (bt z1.1.toNatClampNeg) hq4) (tb_S kw457 kw458 kw6 kw459) rfl rfl (by decide +kernel) ⟨Nat.le_of_ble_eq_true rfl, Nat.le_of_ble_eq_true rfl⟩ hK hP hD hS hA hE rfl rfl hl.1 (Nat.le_of_ble_eq_true rfl) ⟨Nat.zero_le _, Nat.zero_le _⟩ dX3_readNumber_27 (fun H locs hP hD hS => ?_)
        refine lv_if_eq (tgt := 64) hx hb dX3_readNumber_30 (by decide) (fun c5 => ?_) (fun c5 => ?_)
        · replace h := (if_pos c5).symm.trans h
          rw [← Option.some.inj h] at h1
          exact hX1_0 (z1.1, z1.2) _ _ _ (lp_x h1) hP hD hS (lv_sub hl [0, 1, 2] rfl)
        · replace h := (if_neg c5).symm.trans h
          refine lv_iload_n hx hb dX3_readNumber_33 rfl (lv_at hl 2 rfl) ?_
          refine lv_bipush (v := 10) hx hb dX3_readNumber_34 (by decide) ?_
          refine lv_imul hx hb dX3_readNumber_36 ?_
          refine lv_aload_n hx hb dX3_readNumber_37 rfl (lv_at hl 0 rfl) ?_
          refine va_get (D := G) (ci := 3) (v := .ref (aX 1)) (C := RX3) (T := TX3) (N := 7) hx hb hts uX3 hown hK hP 0 rfl rfl 0 (by decide) (hts _ kw139) (fun _ h9 => h9) rfl dX3_readNumber_38 ?_
          refine lv_aload_n hx hb dX3_readNumber_41 rfl (lv_at hl 0 rfl) ?_
          refine va_get (D := G) (ci := 3) (v := .int z1.1) (C := RX3) (T := TX3) (N := 7) hx hb hts uX3 hown hK hP 0 rfl rfl 5 (by decide) (hts _ kw147) (fun _ h9 => h9) rfl dX3_readNumber_42 ?_
          obtain ⟨g6, h⟩ := gd_s h
          refine va_iald hx hb hK hP 1 0 rfl rfl (ib_in g6) dX3_readNumber_45 ?_
          refine lv_iadd hx hb dX3_readNumber_46 ?_
          refine lv_bipush (v := 48) hx hb dX3_readNumber_47 (by decide) ?_
          refine lv_isub hx hb dX3_readNumber_49 ?_
          refine lv_istore_n (lv' := [(2, .int (((z1.2 * 10) + (bt z1.1.toNatClampNeg)) - 48)), (0, .ref (aX 0)), (1, .int ax)]) hx hb dX3_readNumber_50 rfl hl (by decide) rfl (fun ls hl => ?_)
          refine lv_aload_n hx hb dX3_readNumber_51 rfl (lv_at hl 1 rfl) ?_
          refine lv_dup hx hb dX3_readNumber_52 rfl ?_
          refine va_get (D := G) (ci := 3) (v := .int z1.1) (C := RX3) (T := TX3) (N := 7) hx hb hts uX3 hown hK hP 0 rfl rfl 5 (by decide) (hts _ kw147) (fun _ h9 => h9) rfl dX3_readNumber_53 ?_
          refine lv_iconst (v := 1) hx hb dX3_readNumber_56 (by decide) ?_
          refine lv_iadd hx hb dX3_readNumber_57 ?_
          refine va_put (D := G) (ci := 3) (ty := .int) (v := .int (z1.1 + 1)) (C := RX3) (T := TX3) (N := 7) hx hb hts uX3 tyX3 tyX3_ok nmX3 hown hK hP hD hS 0 rfl rfl 5 (by decide) (hts _ kw147) (fun _ h9 => h9) rfl (by decide +kernel) rfl rfl (Nat.le_of_ble_eq_true rfl) dX3_readNumber_58 (fun H locs hP hD hS => ?_)
          have hP : va_P G vwCl (wX cI cZ aX bt pa ug le rn (z1.1 + 1) fa ++ ([] : va_W)) H := hP
          have hD : va_D A (wX cI cZ aX bt pa ug le rn (z1.1 + 1) fa ++ ([] : va_W)) := hD
          refine lv_goto (tgt := 7) hx hb dX3_readNumber_61 (by decide) ?_
          rw [← Option.some.inj h] at h1
          exact ih1 ((z1.1 + 1), (((z1.2 * 10) + (bt z1.1.toNatClampNeg)) - 48)) _ _ _ (lp_b h1) hP hD hS (lv_sub hl [1, 2, 0] rfl)
  exact hL1 _ (ax, 0) _ _ _ hq1 hP hD hS (lv_sub hl [2, 1, 0] rfl)

/-! X3_readSigned -/
def f_X3_readSigned (bt : Nat → Int32) (le : Int32) (ax : Int32) (fa : Int32) : Option (Int32 × Int32 × Int32) :=
  (f_X3_accept bt le ax 45).bind (fun q1 => (f_X3_skipBlanks bt le q1.2).bind (fun q2 => (f_X3_readNumber bt le q2 fa).bind (fun q3 => if q1.1 = 0 then (some (q3.1, q3.2.1, q3.2.2)) else (some ((-q3.1), q3.2.1, q3.2.2)))))

set_option maxHeartbeats 4000000 in
set_option maxRecDepth 100000 in
theorem c_X3_readSigned (l : Launch) (G : va_G) (cI cJ cZ cO cA : ClassId) (e : Nat × Nat) (aX : Nat → Nat) (sz : Nat) (bt : Nat → Int32) (pa : Nat → Int32) (ug : Nat → Int32) (le : Int32) (rn : Int32) (ax : Int32) (fa : Int32) {res : Int32 × Int32 × Int32} (hf : f_X3_readSigned bt le ax fa = some res) : MetI l yX3_readSigned cX3_readSigned 3 .int ({ frames := 2, cells := 0, slots := 0, locals := 43 } : Room) [.ref (aX 0)] G (ty5 cI cJ cZ cO cA) e (wX cI cZ aX bt pa ug le rn ax fa ++ ([] : va_W)) (wX cI cZ aX bt pa ug le rn res.2.1 res.2.2 ++ ([] : va_W)) sz res.1 := by
  refine g_body (QQ := fun A => (qI G (ty5 cI cJ cZ cO cA) A (wX cI cZ aX bt pa ug le rn res.2.1 res.2.2 ++ ([] : va_W)) res.1)) (own := RX3) (by decide) rfl (Nat.le_of_ble_eq_true rfl) ?_
  intro p ev s m below meth c A ls hx hb hr hml hown hts hlk hA hP hD hS hK hE hl
  have hl : lv_has ls 3 [(0, .ref (aX 0))] := hl
  show W p l ev ({ frames := 2, cells := 0, slots := 0, locals := 43 } : Room) s m ([.ref (aX 0)] : List Value).toArray below meth c s.heap [] 0 0 (MQ below (qI G (ty5 cI cJ cZ cO cA) A (wX cI cZ aX bt pa ug le rn res.2.1 res.2.2 ++ ([] : va_W)) res.1) ([.ref (aX 0)] : List Value).toArray s 0 0 A) (F0 m 0 ls [])
  have h := hf
  unfold f_X3_readSigned at h
  refine lv_aload_n hx hb dX3_readSigned_0 rfl (lv_at hl 0 rfl) ?_
  refine lv_bipush (v := 45) hx hb dX3_readSigned_1 (by decide) ?_
  obtain ⟨q1, hq1, h⟩ := bd_s h
  refine kVi (n := 1) (C := RX3) (ws' := wX cI cZ aX bt pa ug le rn q1.2 fa ++ ([] : va_W)) (As := [.int 45]) (rest := []) hx hb hml hown hts (c_X3_accept l G cI cJ cZ cO cA e aX _ bt pa ug le rn ax fa 45 hq1) (tb_V kw445 kw447 kv9 kw6 kw448) rfl rfl (by decide +kernel) ⟨Nat.le_of_ble_eq_true rfl, Nat.le_of_ble_eq_true rfl⟩ hK hP hD hS hA hE 0 rfl rfl [0, 1, 2, 3] [] rfl rfl rfl 4 ⟨rfl, rfl⟩ (by decide +kernel) (by decide +kernel) rfl rfl hl.1 (Nat.le_of_ble_eq_true rfl) ⟨Nat.zero_le _, Nat.zero_le _⟩ dX3_readSigned_3 (fun H locs hP hD hS => ?_)
  refine lv_istore_n (lv' := [(1, .int q1.1), (0, .ref (aX 0))]) hx hb dX3_readSigned_6 rfl hl (by decide) rfl (fun ls hl => ?_)
  refine lv_aload_n hx hb dX3_readSigned_7 rfl (lv_at hl 1 rfl) ?_
  obtain ⟨q2, hq2, h⟩ := bd_s h
  refine kVv (n := 0) (C := RX3) (ws' := wX cI cZ aX bt pa ug le rn q2 fa ++ ([] : va_W)) (As := []) (rest := []) hx hb hml hown hts (c_X3_skipBlanks l G cI cJ cZ cO cA e aX _ bt pa ug le rn q1.2 fa hq2) (tb_V kw441 kw443 kv8 kw6 kw444) rfl rfl (by decide +kernel) ⟨Nat.le_of_ble_eq_true rfl, Nat.le_of_ble_eq_true rfl⟩ hK hP hD hS hA hE 0 rfl rfl [0, 1, 2, 3] [] rfl rfl rfl 4 ⟨rfl, rfl⟩ (by decide +kernel) (by decide +kernel) rfl rfl hl.1 (Nat.le_of_ble_eq_true rfl) ⟨Nat.zero_le _, Nat.zero_le _⟩ dX3_readSigned_8 (fun H locs hP hD hS => ?_)
  refine lv_aload_n hx hb dX3_readSigned_11 rfl (lv_at hl 1 rfl) ?_
  obtain ⟨q3, hq3, h⟩ := bd_s h
  refine kVi (n := 0) (C := RX3) (ws' := wX cI cZ aX bt pa ug le rn q3.2.1 q3.2.2 ++ ([] : va_W)) (As := []) (rest := []) hx hb hml hown hts (c_X3_readNumber l G cI cJ cZ cO cA e aX _ bt pa ug le rn q2 fa hq3) (tb_V kw453 kw455 kv11 kw6 kw456) rfl rfl (by decide +kernel) ⟨Nat.le_of_ble_eq_true rfl, Nat.le_of_ble_eq_true rfl⟩ hK hP hD hS hA hE 0 rfl rfl [0, 1, 2, 3] [] rfl rfl rfl 4 ⟨rfl, rfl⟩ (by decide +kernel) (by decide +kernel) rfl rfl hl.1 (Nat.le_of_ble_eq_true rfl) ⟨Nat.zero_le _, Nat.zero_le _⟩ dX3_readSigned_12 (fun H locs hP hD hS => ?_)
  refine lv_istore_n (lv' := [(2, .int q3.1), (1, .int q1.1), (0, .ref (aX 0))]) hx hb dX3_readSigned_15 rfl hl (by decide) rfl (fun ls hl => ?_)
  refine lv_iload_n hx hb dX3_readSigned_16 rfl (lv_at hl 1 rfl) ?_
  refine lv_if_eq (tgt := 25) hx hb dX3_readSigned_17 (by decide) (fun c4 => ?_) (fun c4 => ?_)
  · replace h := (if_pos c4).symm.trans h
    refine lv_iload_n hx hb dX3_readSigned_25 rfl (lv_at hl 0 rfl) ?_
    rw [← Option.some.inj h]
    exact kri hx hb hr hlk rfl rfl hP hD hS hK dX3_readSigned_26
  · replace h := (if_neg c4).symm.trans h
    refine lv_iload_n hx hb dX3_readSigned_20 rfl (lv_at hl 0 rfl) ?_
    refine lv_ineg hx hb dX3_readSigned_21 ?_
    refine lv_goto (tgt := 26) hx hb dX3_readSigned_22 (by decide) ?_
    rw [← Option.some.inj h]
    exact kri hx hb hr hlk rfl rfl hP hD hS hK dX3_readSigned_26

/-! X3_readRequest -/
def f_X3_readRequest_j66 (bt : Nat → Int32) (pa : Nat → Int32) (le : Int32) (rn : Int32) (ax : Int32) (fa : Int32) (v3 : Int32) : Option (((Nat → Int32) × Int32 × Int32 × Int32) ⊕ (((Nat → Int32) × Int32 × Int32) ⊕ ((Nat → Int32) × Int32 × Int32))) :=
  (f_X3_readSigned bt le ax fa).bind (fun q9 => gd (ib ((rn * 3) + v3) 30) (some (Sum.inl ((upd pa ((rn * 3) + v3).toNatClampNeg q9.1), q9.2.1, q9.2.2, (v3 + 1)))))
def f_X3_readRequest_b30 (bt : Nat → Int32) (le : Int32) (rn : Int32) (z4 : (Nat → Int32) × Int32 × Int32 × Int32) : Option (((Nat → Int32) × Int32 × Int32 × Int32) ⊕ (((Nat → Int32) × Int32 × Int32) ⊕ ((Nat → Int32) × Int32 × Int32))) :=
  if 3 ≤ z4.2.2.2 then (some (Sum.inr (Sum.inr (z4.1, z4.2.1, z4.2.2.1)))) else (if z4.2.2.1 = (-2000000000) then (if z4.2.2.2 ≤ 0 then (f_X3_readRequest_j66 bt z4.1 le rn z4.2.1 z4.2.2.1 z4.2.2.2) else ((f_X3_accept bt le z4.2.1 44).bind (fun q11 => if q11.1 = 0 then (some (Sum.inr (Sum.inl (z4.1, q11.2, z4.2.2.1)))) else (f_X3_readRequest_j66 bt z4.1 le rn q11.2 z4.2.2.1 z4.2.2.2)))) else (some (Sum.inr (Sum.inr (z4.1, z4.2.1, z4.2.2.1)))))
def f_X3_readRequest (bt : Nat → Int32) (le : Int32) (pa : Nat → Int32) (ug : Nat → Int32) (rn : Int32) (ax : Int32) (fa : Int32) (p0 : Int32) : Option ((Nat → Int32) × (Nat → Int32) × Int32 × Int32 × Int32) :=
  (f_X3_skipBlanks bt le ax).bind (fun q1 => if rn < p0 then ((f_X3_accept bt le q1 33).bind (fun q3 => (lp (f_X3_readRequest_b30 bt le rn) 1000 (pa, q3.2, fa, 0)).bind (fun q4 => Sum.elim (fun t4 => some (t4.1, ug, rn, t4.2.1, t4.2.1)) (fun t4 => gd (ib rn 10) (some (t4.1, (upd ug rn.toNatClampNeg (vp_nar .boolean q3.1)), (rn + 1), t4.2.1, t4.2.2))) q4))) else (some (pa, ug, rn, q1, q1)))

set_option maxHeartbeats 4000000 in
set_option maxRecDepth 100000 in
theorem c_X3_readRequest (l : Launch) (G : va_G) (cI cJ cZ cO cA : ClassId) (e : Nat × Nat) (aX : Nat → Nat) (sz : Nat) (bt : Nat → Int32) (pa : Nat → Int32) (ug : Nat → Int32) (le : Int32) (rn : Int32) (ax : Int32) (fa : Int32) (p0 : Int32) {res : (Nat → Int32) × (Nat → Int32) × Int32 × Int32 × Int32} (hf : f_X3_readRequest bt le pa ug rn ax fa p0 = some res) : MetV l yX3_readRequest cX3_readRequest 4 ({ frames := 3, cells := 0, slots := 0, locals := 65 } : Room) [.ref (aX 0), .int p0] G (ty5 cI cJ cZ cO cA) e (wX cI cZ aX bt pa ug le rn ax fa ++ ([] : va_W)) (wX cI cZ aX bt res.1 res.2.1 le res.2.2.1 res.2.2.2.1 res.2.2.2.2 ++ ([] : va_W)) sz := by
  refine g_body (QQ := fun A => (qV G (ty5 cI cJ cZ cO cA) A (wX cI cZ aX bt res.1 res.2.1 le res.2.2.1 res.2.2.2.1 res.2.2.2.2 ++ ([] : va_W)))) (own := RX3) (by decide) rfl (Nat.le_of_ble_eq_true rfl) ?_
  intro p ev s m below meth c A ls hx hb hr hml hown hts hlk hA hP hD hS hK hE hl
  have hl : lv_has ls 4 [(0, .ref (aX 0)), (1, .int p0)] := hl
  show W p l ev ({ frames := 3, cells := 0, slots := 0, locals := 65 } : Room) s m ([.ref (aX 0), .int p0] : List Value).toArray below meth c s.heap [] 0 0 (MQ below (qV G (ty5 cI cJ cZ cO cA) A (wX cI cZ aX bt res.1 res.2.1 le res.2.2.1 res.2.2.2.1 res.2.2.2.2 ++ ([] : va_W))) ([.ref (aX 0), .int p0] : List Value).toArray s 0 0 A) (F0 m 0 ls [])
  have h := hf
  unfold f_X3_readRequest at h
  refine lv_aload_n hx hb dX3_readRequest_0 rfl (lv_at hl 0 rfl) ?_
  obtain ⟨q1, hq1, h⟩ := bd_s h
  refine kVv (n := 0) (C := RX3) (ws' := wX cI cZ aX bt pa ug le rn q1 fa ++ ([] : va_W)) (As := []) (rest := []) hx hb hml hown hts (c_X3_skipBlanks l G cI cJ cZ cO cA e aX _ bt pa ug le rn ax fa hq1) (tb_V kw441 kw443 kv8 kw6 kw444) rfl rfl (by decide +kernel) ⟨Nat.le_of_ble_eq_true rfl, Nat.le_of_ble_eq_true rfl⟩ hK hP hD hS hA hE 0 rfl rfl [0, 1, 2, 3] [] rfl rfl rfl 4 ⟨rfl, rfl⟩ (by decide +kernel) (by decide +kernel) rfl rfl hl.1 (Nat.le_of_ble_eq_true rfl) ⟨Nat.zero_le _, Nat.zero_le _⟩ dX3_readRequest_1 (fun H locs hP hD hS => ?_)
  refine lv_aload_n hx hb dX3_readRequest_4 rfl (lv_at hl 0 rfl) ?_
  refine va_get (D := G) (ci := 3) (v := .int rn) (C := RX3) (T := TX3) (N := 7) hx hb hts uX3 hown hK hP 0 rfl rfl 4 (by decide) (hts _ kw145) (fun _ h9 => h9) rfl dX3_readRequest_5 ?_
  refine lv_iload_n hx hb dX3_readRequest_8 rfl (lv_at hl 1 rfl) ?_
  refine lv_icmp_lt (tgt := 21) hx hb dX3_readRequest_9 (by decide) (fun c2 => ?_) (fun c2 => ?_)
  · replace h := (if_pos c2).symm.trans h
    refine lv_aload_n hx hb dX3_readRequest_21 rfl (lv_at hl 0 rfl) ?_
    refine lv_bipush (v := 33) hx hb dX3_readRequest_22 (by decide) ?_
    obtain ⟨q3, hq3, h⟩ := bd_s h
    refine kVi (n := 1) (C := RX3) (ws' := wX cI cZ aX bt pa ug le rn q3.2 fa ++ ([] : va_W)) (As := [.int 33]) (rest := []) hx hb hml hown hts (c_X3_accept l G cI cJ cZ cO cA e aX _ bt pa ug le rn q1 fa 33 hq3) (tb_V kw445 kw447 kv9 kw6 kw448) rfl rfl (by decide +kernel) ⟨Nat.le_of_ble_eq_true rfl, Nat.le_of_ble_eq_true rfl⟩ hK hP hD hS hA hE 0 rfl rfl [0, 1, 2, 3] [] rfl rfl rfl 4 ⟨rfl, rfl⟩ (by decide +kernel) (by decide +kernel) rfl rfl hl.1 (Nat.le_of_ble_eq_true rfl) ⟨Nat.zero_le _, Nat.zero_le _⟩ dX3_readRequest_24 (fun H locs hP hD hS => ?_)
    refine lv_istore_n (lv' := [(2, .int q3.1), (0, .ref (aX 0)), (1, .int p0)]) hx hb dX3_readRequest_27 rfl hl (by decide) rfl (fun ls hl => ?_)
    refine lv_iconst (v := 0) hx hb dX3_readRequest_28 (by decide) ?_
    refine lv_istore_n (lv' := [(3, .int 0), (2, .int q3.1), (0, .ref (aX 0)), (1, .int p0)]) hx hb dX3_readRequest_29 rfl hl (by decide) rfl (fun ls hl => ?_)
    obtain ⟨q4, hq4, h⟩ := bd_s h
    have hX4_0 : ∀ (t4 : (Nat → Int32) × Int32 × Int32) (H : Heap) (locs : List Loc) (ls : Array Slot), Sum.inl t4 = q4 → va_P G vwCl (wX cI cZ aX bt t4.1 ug le rn t4.2.1 t4.2.2 ++ ([] : va_W)) H → va_D A (wX cI cZ aX bt t4.1 ug le rn t4.2.1 t4.2.2 ++ ([] : va_W)) → va_S A s.heap H locs → lv_has ls 4 [(0, .ref (aX 0))] → W p l ev ({ frames := 3, cells := 0, slots := 0, locals := 65 } : Room) s m ([.ref (aX 0), .int p0] : List Value).toArray below meth c H locs 0 0 (MQ below (qV G (ty5 cI cJ cZ cO cA) A (wX cI cZ aX bt res.1 res.2.1 le res.2.2.1 res.2.2.2.1 res.2.2.2.2 ++ ([] : va_W))) ([.ref (aX 0), .int p0] : List Value).toArray s 0 0 A) (F0 m 57 ls []) := by
      intro t4 H locs ls e4 hP hD hS hl
      rw [← e4] at h
      replace h := se_l h
      refine lv_aload_n hx hb dX3_readRequest_57 rfl (lv_at hl 0 rfl) ?_
      refine lv_aload_n hx hb dX3_readRequest_58 rfl (lv_at hl 0 rfl) ?_
      refine va_get (D := G) (ci := 3) (v := .int t4.2.1) (C := RX3) (T := TX3) (N := 7) hx hb hts uX3 hown hK hP 0 rfl rfl 5 (by decide) (hts _ kw147) (fun _ h9 => h9) rfl dX3_readRequest_59 ?_
      refine va_put (D := G) (ci := 3) (ty := .int) (v := .int t4.2.1) (C := RX3) (T := TX3) (N := 7) hx hb hts uX3 tyX3 tyX3_ok nmX3 hown hK hP hD hS 0 rfl rfl 6 (by decide) (hts _ kw148) (fun _ h9 => h9) rfl (by decide +kernel) rfl rfl (Nat.le_of_ble_eq_true rfl) dX3_readRequest_62 (fun H locs hP hD hS => ?_)
      have hP : va_P G vwCl (wX cI cZ aX bt t4.1 ug le rn t4.2.1 t4.2.1 ++ ([] : va_W)) H := hP
      have hD : va_D A (wX cI cZ aX bt t4.1 ug le rn t4.2.1 t4.2.1 ++ ([] : va_W)) := hD
      rw [← Option.some.inj h]
      exact krv hx hb hr hlk hP hD hS hK dX3_readRequest_65
    have hX4_1 : ∀ (t4 : (Nat → Int32) × Int32 × Int32) (H : Heap) (locs : List Loc) (ls : Array Slot), Sum.inr t4 = q4 → va_P G vwCl (wX cI cZ aX bt t4.1 ug le rn t4.2.1 t4.2.2 ++ ([] : va_W)) H → va_D A (wX cI cZ aX bt t4.1 ug le rn t4.2.1 t4.2.2 ++ ([] : va_W)) → va_S A s.heap H locs → lv_has ls 4 [(0, .ref (aX 0)), (2, .int q3.1)] → W p l ev ({ frames := 3, cells := 0, slots := 0, locals := 65 } : Room) s m ([.ref (aX 0), .int p0] : List Value).toArray below meth c H locs 0 0 (MQ below (qV G (ty5 cI cJ cZ cO cA) A (wX cI cZ aX bt res.1 res.2.1 le res.2.2.1 res.2.2.2.1 res.2.2.2.2 ++ ([] : va_W))) ([.ref (aX 0), .int p0] : List Value).toArray s 0 0 A) (F0 m 89 ls []) := by
      intro t4 H locs ls e4 hP hD hS hl
      rw [← e4] at h
      replace h := se_r h
      refine lv_aload_n hx hb dX3_readRequest_89 rfl (lv_at hl 0 rfl) ?_
      refine va_get (D := G) (ci := 3) (v := .ref (aX 3)) (C := RX3) (T := TX3) (N := 7) hx hb hts uX3 hown hK hP 0 rfl rfl 2 (by decide) (hts _ kw142) (fun _ h9 => h9) rfl dX3_readRequest_90 ?_
      refine lv_aload_n hx hb dX3_readRequest_93 rfl (lv_at hl 0 rfl) ?_
      refine va_get (D := G) (ci := 3) (v := .int rn) (C := RX3) (T := TX3) (N := 7) hx hb hts uX3 hown hK hP 0 rfl rfl 4 (by decide) (hts _ kw145) (fun _ h9 => h9) rfl dX3_readRequest_94 ?_
      refine lv_iload_n hx hb dX3_readRequest_97 rfl (lv_at hl 1 rfl) ?_
      obtain ⟨g13, h⟩ := gd_s h
      refine va_zast hx hb hK hP hD hS 3 2 rfl rfl (ib_in g13) dX3_readRequest_98 (fun H locs hP hD hS => ?_)
      have hP : va_P G vwCl (wX cI cZ aX bt t4.1 (upd ug rn.toNatClampNeg (vp_nar .boolean q3.1)) le rn t4.2.1 t4.2.2 ++ ([] : va_W)) H := hP
      have hD : va_D A (wX cI cZ aX bt t4.1 (upd ug rn.toNatClampNeg (vp_nar .boolean q3.1)) le rn t4.2.1 t4.2.2 ++ ([] : va_W)) := hD
      refine lv_aload_n hx hb dX3_readRequest_99 rfl (lv_at hl 0 rfl) ?_
      refine lv_dup hx hb dX3_readRequest_100 rfl ?_
      refine va_get (D := G) (ci := 3) (v := .int rn) (C := RX3) (T := TX3) (N := 7) hx hb hts uX3 hown hK hP 0 rfl rfl 4 (by decide) (hts _ kw145) (fun _ h9 => h9) rfl dX3_readRequest_101 ?_
      refine lv_iconst (v := 1) hx hb dX3_readRequest_104 (by decide) ?_
      refine lv_iadd hx hb dX3_readRequest_105 ?_
      refine va_put (D := G) (ci := 3) (ty := .int) (v := .int (rn + 1)) (C := RX3) (T := TX3) (N := 7) hx hb hts uX3 tyX3 tyX3_ok nmX3 hown hK hP hD hS 0 rfl rfl 4 (by decide) (hts _ kw145) (fun _ h9 => h9) rfl (by decide +kernel) rfl rfl (Nat.le_of_ble_eq_true rfl) dX3_readRequest_106 (fun H locs hP hD hS => ?_)
      have hP : va_P G vwCl (wX cI cZ aX bt t4.1 (upd ug rn.toNatClampNeg (vp_nar .boolean q3.1)) le (rn + 1) t4.2.1 t4.2.2 ++ ([] : va_W)) H := hP
      have hD : va_D A (wX cI cZ aX bt t4.1 (upd ug rn.toNatClampNeg (vp_nar .boolean q3.1)) le (rn + 1) t4.2.1 t4.2.2 ++ ([] : va_W)) := hD
      rw [← Option.some.inj h]
      exact krv hx hb hr hlk hP hD hS hK dX3_readRequest_109
    have hL4 : ∀ (n : Nat) (z4 : (Nat → Int32) × Int32 × Int32 × Int32) (H : Heap) (locs : List Loc) (ls : Array Slot), lp (f_X3_readRequest_b30 bt le rn) n z4 = some q4 → va_P G vwCl (wX cI cZ aX bt z4.1 ug le rn z4.2.1 z4.2.2.1 ++ ([] : va_W)) H → va_D A (wX cI cZ aX bt z4.1 ug le rn z4.2.1 z4.2.2.1 ++ ([] : va_W)) → va_S A s.heap H locs → lv_has ls 4 [(0, .ref (aX 0)), (2, .int q3.1), (3, .int z4.2.2.2)] → W p l ev ({ frames := 3, cells := 0, slots := 0, locals := 65 } : Room) s m ([.ref (aX 0), .int p0] : List Value).toArray below meth c H locs 0 0 (MQ below (qV G (ty5 cI cJ cZ cO cA) A (wX cI cZ aX bt res.1 res.2.1 le res.2.2.1 res.2.2.2.1 res.2.2.2.2 ++ ([] : va_W))) ([.ref (aX 0), .int p0] : List Value).toArray s 0 0 A) (F0 m 30 ls []) := by
      intro n
      induction n with
      | zero => intro z4 H locs ls h; cases h
      | succ n ih4 =>
        intro z4 H locs ls h hP hD hS hl
        obtain ⟨o4, h, h4⟩ := lp_s h
        unfold f_X3_readRequest_b30 at h
        refine lv_iload_n hx hb dX3_readRequest_30 rfl (lv_at hl 2 rfl) ?_
        refine lv_iconst (v := 3) hx hb dX3_readRequest_31 (by decide) ?_
        refine lv_icmp_ge (tgt := 89) hx hb dX3_readRequest_32 (by decide) (fun c5 => ?_) (fun c5 => ?_)
        · replace h := (if_pos c5).symm.trans h
          rw [← Option.some.inj h] at h4
          exact hX4_1 (z4.1, z4.2.1, z4.2.2.1) _ _ _ (lp_x h4) hP hD hS (lv_sub hl [0, 1] rfl)
        · replace h := (if_neg c5).symm.trans h
          refine lv_aload_n hx hb dX3_readRequest_35 rfl (lv_at hl 0 rfl) ?_
          refine va_get (D := G) (ci := 3) (v := .int z4.2.2.1) (C := RX3) (T := TX3) (N := 7) hx hb hts uX3 hown hK hP 0 rfl rfl 6 (by decide) (hts _ kw148) (fun _ h9 => h9) rfl dX3_readRequest_36 ?_
          refine lv_ldc (v := (-2000000000)) hx hb hown (hts _ kw138) dX3_readRequest_39 ?_
          refine lv_icmp_ne (tgt := 89) hx hb dX3_readRequest_41 (by decide) (fun c6 => ?_) (fun c6 => ?_)
          · replace h := (if_neg c6).symm.trans h
            rw [← Option.some.inj h] at h4
            exact hX4_1 (z4.1, z4.2.1, z4.2.2.1) _ _ _ (lp_x h4) hP hD hS (lv_sub hl [0, 1] rfl)
          · replace h := (if_pos c6).symm.trans h
            refine lv_iload_n hx hb dX3_readRequest_44 rfl (lv_at hl 2 rfl) ?_
            have hJ8 : ∀ (pa_8 : Nat → Int32) (ax_8 : Int32) (fa_8 : Int32) (v3_8 : Int32) (H : Heap) (locs : List Loc) (ls : Array Slot), f_X3_readRequest_j66 bt pa_8 le rn ax_8 fa_8 v3_8 = some o4 → va_P G vwCl (wX cI cZ aX bt pa_8 ug le rn ax_8 fa_8 ++ ([] : va_W)) H → va_D A (wX cI cZ aX bt pa_8 ug le rn ax_8 fa_8 ++ ([] : va_W)) → va_S A s.heap H locs → lv_has ls 4 [(0, .ref (aX 0)), (2, .int q3.1), (3, .int v3_8)] → W p l ev ({ frames := 3, cells := 0, slots := 0, locals := 65 } : Room) s m ([.ref (aX 0), .int p0] : List Value).toArray below meth c H locs 0 0 (MQ below (qV G (ty5 cI cJ cZ cO cA) A (wX cI cZ aX bt res.1 res.2.1 le res.2.2.1 res.2.2.2.1 res.2.2.2.2 ++ ([] : va_W))) ([.ref (aX 0), .int p0] : List Value).toArray s 0 0 A) (F0 m 66 ls []) := by
              intro pa_8 ax_8 fa_8 v3_8 H locs ls h hP hD hS hl
              unfold f_X3_readRequest_j66 at h
              refine lv_aload_n hx hb dX3_readRequest_66 rfl (lv_at hl 0 rfl) ?_
              refine va_get (D := G) (ci := 3) (v := .ref (aX 2)) (C := RX3) (T := TX3) (N := 7) hx hb hts uX3 hown hK hP 0 rfl rfl 1 (by decide) (hts _ kw140) (fun _ h9 => h9) rfl dX3_readRequest_67 ?_
              refine lv_aload_n hx hb dX3_readRequest_70 rfl (lv_at hl 0 rfl) ?_
              refine va_get (D := G) (ci := 3) (v := .int rn) (C := RX3) (T := TX3) (N := 7) hx hb hts uX3 hown hK hP 0 rfl rfl 4 (by decide) (hts _ kw145) (fun _ h9 => h9) rfl dX3_readRequest_71 ?_
              refine lv_iconst (v := 3) hx hb dX3_readRequest_74 (by decide) ?_
              refine lv_imul hx hb dX3_readRequest_75 ?_
              refine lv_iload_n hx hb dX3_readRequest_76 rfl (lv_at hl 2 rfl) ?_
              refine lv_iadd hx hb dX3_readRequest_77 ?_
              refine lv_aload_n hx hb dX3_readRequest_78 rfl (lv_at hl 0 rfl) ?_
              obtain ⟨q9, hq9, h⟩ := bd_s h
              refine kVi (n := 0) (C := RX3) (ws' := wX cI cZ aX bt pa_8 ug le rn q9.2.1 q9.2.2 ++ ([] : va_W)) (As := []) (rest := [.int ((rn * 3) + v3_8), .ref (aX 2)]) hx hb hml hown hts (c_X3_readSigned l G cI cJ cZ cO cA e aX _ bt pa_8 ug le rn ax_8 fa_8 hq9) (tb_V kw449 kw451 kv10 kw6 kw452) rfl rfl (by decide +kernel) ⟨Nat.le_of_ble_eq_true rfl, Nat.le_of_ble_eq_true rfl⟩ hK hP hD hS hA hE 0 rfl rfl [0, 1, 2, 3] [] rfl rfl rfl 4 ⟨rfl, rfl⟩ (by decide +kernel) (by decide +kernel) rfl rfl hl.1 (Nat.le_of_ble_eq_true rfl) ⟨Nat.zero_le _, Nat.zero_le _⟩ dX3_readRequest_79 (fun H locs hP hD hS => ?_)
              obtain ⟨g10, h⟩ := gd_s h
              refine va_iast hx hb hK hP hD hS 2 0 rfl rfl (ib_in g10) dX3_readRequest_82 (fun H locs hP hD hS => ?_)
              have hP : va_P G vwCl (wX cI cZ aX bt (upd pa_8 ((rn * 3) + v3_8).toNatClampNeg q9.1) ug le rn q9.2.1 q9.2.2 ++ ([] : va_W)) H := hP
              have hD : va_D A (wX cI cZ aX bt (upd pa_8 ((rn * 3) + v3_8).toNatClampNeg q9.1) ug le rn q9.2.1 q9.2.2 ++ ([] : va_W)) := hD
              refine lv_iinc (v := (v3_8 + 1)) (lv' := [(3, .int (v3_8 + 1)), (0, .ref (aX 0)), (2, .int q3.1)]) hx hb dX3_readRequest_83 hl (k := 2) rfl rfl (by decide) rfl (fun ls hl => ?_)
              refine lv_goto (tgt := 30) hx hb dX3_readRequest_86 (by decide) ?_
              rw [← Option.some.inj h] at h4
              exact ih4 ((upd pa_8 ((rn * 3) + v3_8).toNatClampNeg q9.1), q9.2.1, q9.2.2, (v3_8 + 1)) _ _ _ (lp_b h4) hP hD hS (lv_sub hl [1, 2, 0] rfl)
            refine lv_if_le (tgt := 66) hx hb dX3_readRequest_45 (by decide) (fun c7 => ?_) (fun c7 => ?_)
            · replace h := (if_pos c7).symm.trans h
              exact hJ8 z4.1 z4.2.1 z4.2.2.1 z4.2.2.2 _ _ _ h hP hD hS (lv_sub hl [0, 1, 2] rfl)
            · replace h := (if_neg c7).symm.trans h
              refine lv_aload_n hx hb dX3_readRequest_48 rfl (lv_at hl 0 rfl) ?_
              refine lv_bipush (v := 44) hx hb dX3_readRequest_49 (by decide) ?_
              obtain ⟨q11, hq11, h⟩ := bd_s h
              refine kVi (n := 1) (C := RX3) (ws' := wX cI cZ aX bt z4.1 ug le rn q11.2 z4.2.2.1 ++ ([] : va_W)) (As := [.int 44]) (rest := []) hx hb hml hown hts (c_X3_accept l G cI cJ cZ cO cA e aX _ bt z4.1 ug le rn z4.2.1 z4.2.2.1 44 hq11) (tb_V kw445 kw447 kv9 kw6 kw448) rfl rfl (by decide +kernel) ⟨Nat.le_of_ble_eq_true rfl, Nat.le_of_ble_eq_true rfl⟩ hK hP hD hS hA hE 0 rfl rfl [0, 1, 2, 3] [] rfl rfl rfl 4 ⟨rfl, rfl⟩ (by decide +kernel) (by decide +kernel) rfl rfl hl.1 (Nat.le_of_ble_eq_true rfl) ⟨Nat.zero_le _, Nat.zero_le _⟩ dX3_readRequest_51 (fun H locs hP hD hS => ?_)
              refine lv_if_ne (tgt := 66) hx hb dX3_readRequest_54 (by decide) (fun c12 => ?_) (fun c12 => ?_)
              · replace h := (if_neg c12).symm.trans h
                exact hJ8 z4.1 q11.2 z4.2.2.1 z4.2.2.2 _ _ _ h hP hD hS (lv_sub hl [0, 1, 2] rfl)
              · replace h := (if_pos c12).symm.trans h
                rw [← Option.some.inj h] at h4
                exact hX4_0 (z4.1, q11.2, z4.2.2.1) _ _ _ (lp_x h4) hP hD hS (lv_sub hl [0] rfl)
    exact hL4 _ (pa, q3.2, fa, 0) _ _ _ hq4 hP hD hS (lv_sub hl [2, 1, 0] rfl)
  · replace h := (if_neg c2).symm.trans h
    refine lv_aload_n hx hb dX3_readRequest_12 rfl (lv_at hl 0 rfl) ?_
    refine lv_aload_n hx hb dX3_readRequest_13 rfl (lv_at hl 0 rfl) ?_
    refine va_get (D := G) (ci := 3) (v := .int q1) (C := RX3) (T := TX3) (N := 7) hx hb hts uX3 hown hK hP 0 rfl rfl 5 (by decide) (hts _ kw147) (fun _ h9 => h9) rfl dX3_readRequest_14 ?_
    refine va_put (D := G) (ci := 3) (ty := .int) (v := .int q1) (C := RX3) (T := TX3) (N := 7) hx hb hts uX3 tyX3 tyX3_ok nmX3 hown hK hP hD hS 0 rfl rfl 6 (by decide) (hts _ kw148) (fun _ h9 => h9) rfl (by decide +kernel) rfl rfl (Nat.le_of_ble_eq_true rfl) dX3_readRequest_17 (fun H locs hP hD hS => ?_)
    have hP : va_P G vwCl (wX cI cZ aX bt pa ug le rn q1 q1 ++ ([] : va_W)) H := hP
    have hD : va_D A (wX cI cZ aX bt pa ug le rn q1 q1 ++ ([] : va_W)) := hD
    rw [← Option.some.inj h]
    exact krv hx hb hr hlk hP hD hS hK dX3_readRequest_20

/-! X3_read -/
def f_X3_read_b18 (bt : Nat → Int32) (le : Int32) (v1 : Int32) (z1 : (Nat → Int32) × (Nat → Int32) × Int32 × Int32 × Int32 × Int32) : Option (((Nat → Int32) × (Nat → Int32) × Int32 × Int32 × Int32 × Int32) ⊕ (((Nat → Int32) × (Nat → Int32) × Int32 × Int32 × Int32) ⊕ (((Nat → Int32) × (Nat → Int32) × Int32 × Int32 × Int32) ⊕ ((Nat → Int32) × (Nat → Int32) × Int32 × Int32 × Int32)))) :=
  if 10 < z1.2.2.2.2.2 then (some (Sum.inr (Sum.inr (Sum.inr (z1.1, z1.2.1, z1.2.2.1, z1.2.2.2.1, z1.2.2.2.2.1))))) else ((f_X3_readRequest bt le z1.1 z1.2.1 z1.2.2.1 z1.2.2.2.1 z1.2.2.2.2.1 (if 10 < v1 then 10 else v1)).bind (fun q3 => (f_X3_skipBlanks bt le q3.2.2.2.1).bind (fun q4 => if q3.2.2.2.2 = (-2000000000) then (if q4 < le then ((f_X3_accept bt le q4 59).bind (fun q7 => if q7.1 = 0 then (some (Sum.inr (Sum.inr (Sum.inl (q3.1, q3.2.1, q3.2.2.1, q7.2, q3.2.2.2.2))))) else (some (Sum.inl (q3.1, q3.2.1, q3.2.2.1, q7.2, q3.2.2.2.2, (z1.2.2.2.2.2 + 1)))))) else (some (Sum.inr (Sum.inl (q3.1, q3.2.1, q3.2.2.1, q4, q3.2.2.2.2))))) else (some (Sum.inr (Sum.inl (q3.1, q3.2.1, q3.2.2.1, q4, q3.2.2.2.2)))))))
def f_X3_read (bt : Nat → Int32) (le : Int32) (pa : Nat → Int32) (ug : Nat → Int32) (rn : Int32) (ax : Int32) (fa : Int32) (p0 : Int32) : Option (Int32 × (Nat → Int32) × (Nat → Int32) × Int32 × Int32 × Int32) :=
  (lp (f_X3_read_b18 bt le p0) 1000 (pa, ug, 0, 0, (-2000000000), 0)).bind (fun q1 => Sum.elim (fun t1 => some (t1.2.2.2.2, t1.1, t1.2.1, t1.2.2.1, t1.2.2.2.1, t1.2.2.2.2)) (Sum.elim (fun t1 => some (t1.2.2.2.1, t1.1, t1.2.1, t1.2.2.1, t1.2.2.2.1, t1.2.2.2.2)) (fun t1 => some (t1.2.2.2.1, t1.1, t1.2.1, t1.2.2.1, t1.2.2.2.1, t1.2.2.2.2))) q1)

set_option maxHeartbeats 4000000 in
set_option maxRecDepth 100000 in
theorem c_X3_read (l : Launch) (G : va_G) (cI cJ cZ cO cA : ClassId) (e : Nat × Nat) (aX : Nat → Nat) (sz : Nat) (bt : Nat → Int32) (pa : Nat → Int32) (ug : Nat → Int32) (le : Int32) (rn : Int32) (ax : Int32) (fa : Int32) (p0 : Int32) {res : Int32 × (Nat → Int32) × (Nat → Int32) × Int32 × Int32 × Int32} (hf : f_X3_read bt le pa ug rn ax fa p0 = some res) : MetI l yX3_read cX3_read 3 .int ({ frames := 4, cells := 0, slots := 0, locals := 88 } : Room) [.ref (aX 0), .int p0] G (ty5 cI cJ cZ cO cA) e (wX cI cZ aX bt pa ug le rn ax fa ++ ([] : va_W)) (wX cI cZ aX bt res.2.1 res.2.2.1 le res.2.2.2.1 res.2.2.2.2.1 res.2.2.2.2.2 ++ ([] : va_W)) sz res.1 := by
  refine g_body (QQ := fun A => (qI G (ty5 cI cJ cZ cO cA) A (wX cI cZ aX bt res.2.1 res.2.2.1 le res.2.2.2.1 res.2.2.2.2.1 res.2.2.2.2.2 ++ ([] : va_W)) res.1)) (own := RX3) (by decide) rfl (Nat.le_of_ble_eq_true rfl) ?_
  intro p ev s m below meth c A ls hx hb hr hml hown hts hlk hA hP hD hS hK hE hl
  have hl : lv_has ls 3 [(0, .ref (aX 0)), (1, .int p0)] := hl
  show W p l ev ({ frames := 4, cells := 0, slots := 0, locals := 88 } : Room) s m ([.ref (aX 0), .int p0] : List Value).toArray below meth c s.heap [] 0 0 (MQ below (qI G (ty5 cI cJ cZ cO cA) A (wX cI cZ aX bt res.2.1 res.2.2.1 le res.2.2.2.1 res.2.2.2.2.1 res.2.2.2.2.2 ++ ([] : va_W)) res.1) ([.ref (aX 0), .int p0] : List Value).toArray s 0 0 A) (F0 m 0 ls [])
  have h := hf
  unfold f_X3_read at h
  refine lv_aload_n hx hb dX3_read_0 rfl (lv_at hl 0 rfl) ?_
  refine lv_iconst (v := 0) hx hb dX3_read_1 (by decide) ?_
  refine va_put (D := G) (ci := 3) (ty := .int) (v := .int 0) (C := RX3) (T := TX3) (N := 7) hx hb hts uX3 tyX3 tyX3_ok nmX3 hown hK hP hD hS 0 rfl rfl 5 (by decide) (hts _ kw147) (fun _ h9 => h9) rfl (by decide +kernel) rfl rfl (Nat.le_of_ble_eq_true rfl) dX3_read_2 (fun H locs hP hD hS => ?_)
  have hP : va_P G vwCl (wX cI cZ aX bt pa ug le rn 0 fa ++ ([] : va_W)) H := hP
  have hD : va_D A (wX cI cZ aX bt pa ug le rn 0 fa ++ ([] : va_W)) := hD
  refine lv_aload_n hx hb dX3_read_5 rfl (lv_at hl 0 rfl) ?_
  refine lv_iconst (v := 0) hx hb dX3_read_6 (by decide) ?_
  refine va_put (D := G) (ci := 3) (ty := .int) (v := .int 0) (C := RX3) (T := TX3) (N := 7) hx hb hts uX3 tyX3 tyX3_ok nmX3 hown hK hP hD hS 0 rfl rfl 4 (by decide) (hts _ kw145) (fun _ h9 => h9) rfl (by decide +kernel) rfl rfl (Nat.le_of_ble_eq_true rfl) dX3_read_7 (fun H locs hP hD hS => ?_)
  have hP : va_P G vwCl (wX cI cZ aX bt pa ug le 0 0 fa ++ ([] : va_W)) H := hP
  have hD : va_D A (wX cI cZ aX bt pa ug le 0 0 fa ++ ([] : va_W)) := hD
  refine lv_aload_n hx hb dX3_read_10 rfl (lv_at hl 0 rfl) ?_
  refine lv_ldc (v := (-2000000000)) hx hb hown (hts _ kw138) dX3_read_11 ?_
  refine va_put (D := G) (ci := 3) (ty := .int) (v := .int (-2000000000)) (C := RX3) (T := TX3) (N := 7) hx hb hts uX3 tyX3 tyX3_ok nmX3 hown hK hP hD hS 0 rfl rfl 6 (by decide) (hts _ kw148) (fun _ h9 => h9) rfl (by decide +kernel) rfl rfl (Nat.le_of_ble_eq_true rfl) dX3_read_13 (fun H locs hP hD hS => ?_)
  have hP : va_P G vwCl (wX cI cZ aX bt pa ug le 0 0 (-2000000000) ++ ([] : va_W)) H := hP
  have hD : va_D A (wX cI cZ aX bt pa ug le 0 0 (-2000000000) ++ ([] : va_W)) := hD
  refine lv_iconst (v := 0) hx hb dX3_read_16 (by decide) ?_
  refine lv_istore_n (lv' := [(2, .int 0), (0, .ref (aX 0)), (1, .int p0)]) hx hb dX3_read_17 rfl hl (by decide) rfl (fun ls hl => ?_)
  obtain ⟨q1, hq1, h⟩ := bd_s h
  have hX1_0 : ∀ (t1 : (Nat → Int32) × (Nat → Int32) × Int32 × Int32 × Int32) (H : Heap) (locs : List Loc) (ls : Array Slot), Sum.inl t1 = q1 → va_P G vwCl (wX cI cZ aX bt t1.1 t1.2.1 le t1.2.2.1 t1.2.2.2.1 t1.2.2.2.2 ++ ([] : va_W)) H → va_D A (wX cI cZ aX bt t1.1 t1.2.1 le t1.2.2.1 t1.2.2.2.1 t1.2.2.2.2 ++ ([] : va_W)) → va_S A s.heap H locs → lv_has ls 3 [(0, .ref (aX 0))] → W p l ev ({ frames := 4, cells := 0, slots := 0, locals := 88 } : Room) s m ([.ref (aX 0), .int p0] : List Value).toArray below meth c H locs 0 0 (MQ below (qI G (ty5 cI cJ cZ cO cA) A (wX cI cZ aX bt res.2.1 res.2.2.1 le res.2.2.2.1 res.2.2.2.2.1 res.2.2.2.2.2 ++ ([] : va_W)) res.1) ([.ref (aX 0), .int p0] : List Value).toArray s 0 0 A) (F0 m 58 ls []) := by
    intro t1 H locs ls e1 hP hD hS hl
    rw [← e1] at h
    replace h := se_l h
    refine lv_aload_n hx hb dX3_read_58 rfl (lv_at hl 0 rfl) ?_
    refine va_get (D := G) (ci := 3) (v := .int t1.2.2.2.2) (C := RX3) (T := TX3) (N := 7) hx hb hts uX3 hown hK hP 0 rfl rfl 6 (by decide) (hts _ kw148) (fun _ h9 => h9) rfl dX3_read_59 ?_
    rw [← Option.some.inj h]
    exact kri hx hb hr hlk rfl rfl hP hD hS hK dX3_read_62
  have hX1_1 : ∀ (t1 : (Nat → Int32) × (Nat → Int32) × Int32 × Int32 × Int32) (H : Heap) (locs : List Loc) (ls : Array Slot), Sum.inr (Sum.inl t1) = q1 → va_P G vwCl (wX cI cZ aX bt t1.1 t1.2.1 le t1.2.2.1 t1.2.2.2.1 t1.2.2.2.2 ++ ([] : va_W)) H → va_D A (wX cI cZ aX bt t1.1 t1.2.1 le t1.2.2.1 t1.2.2.2.1 t1.2.2.2.2 ++ ([] : va_W)) → va_S A s.heap H locs → lv_has ls 3 [(0, .ref (aX 0))] → W p l ev ({ frames := 4, cells := 0, slots := 0, locals := 88 } : Room) s m ([.ref (aX 0), .int p0] : List Value).toArray below meth c H locs 0 0 (MQ below (qI G (ty5 cI cJ cZ cO cA) A (wX cI cZ aX bt res.2.1 res.2.2.1 le res.2.2.2.1 res.2.2.2.2.1 res.2.2.2.2.2 ++ ([] : va_W)) res.1) ([.ref (aX 0), .int p0] : List Value).toArray s 0 0 A) (F0 m 72 ls []) := by
    intro t1 H locs ls e1 hP hD hS hl
    rw [← e1] at h
    replace h := se_l (se_r h)
    refine lv_aload_n hx hb dX3_read_72 rfl (lv_at hl 0 rfl) ?_
    refine va_get (D := G) (ci := 3) (v := .int t1.2.2.2.1) (C := RX3) (T := TX3) (N := 7) hx hb hts uX3 hown hK hP 0 rfl rfl 5 (by decide) (hts _ kw147) (fun _ h9 => h9) rfl dX3_read_73 ?_
    rw [← Option.some.inj h]
    exact kri hx hb hr hlk rfl rfl hP hD hS hK dX3_read_76
  have hX1_2 : ∀ (t1 : (Nat → Int32) × (Nat → Int32) × Int32 × Int32 × Int32) (H : Heap) (locs : List Loc) (ls : Array Slot), Sum.inr (Sum.inr t1) = q1 → va_P G vwCl (wX cI cZ aX bt t1.1 t1.2.1 le t1.2.2.1 t1.2.2.2.1 t1.2.2.2.2 ++ ([] : va_W)) H → va_D A (wX cI cZ aX bt t1.1 t1.2.1 le t1.2.2.1 t1.2.2.2.1 t1.2.2.2.2 ++ ([] : va_W)) → va_S A s.heap H locs → lv_has ls 3 [(0, .ref (aX 0))] → W p l ev ({ frames := 4, cells := 0, slots := 0, locals := 88 } : Room) s m ([.ref (aX 0), .int p0] : List Value).toArray below meth c H locs 0 0 (MQ below (qI G (ty5 cI cJ cZ cO cA) A (wX cI cZ aX bt res.2.1 res.2.2.1 le res.2.2.2.1 res.2.2.2.2.1 res.2.2.2.2.2 ++ ([] : va_W)) res.1) ([.ref (aX 0), .int p0] : List Value).toArray s 0 0 A) (F0 m 83 ls []) := by
    intro t1 H locs ls e1 hP hD hS hl
    rw [← e1] at h
    replace h := se_r (se_r h)
    refine lv_aload_n hx hb dX3_read_83 rfl (lv_at hl 0 rfl) ?_
    refine va_get (D := G) (ci := 3) (v := .int t1.2.2.2.1) (C := RX3) (T := TX3) (N := 7) hx hb hts uX3 hown hK hP 0 rfl rfl 5 (by decide) (hts _ kw147) (fun _ h9 => h9) rfl dX3_read_84 ?_
    rw [← Option.some.inj h]
    exact kri hx hb hr hlk rfl rfl hP hD hS hK dX3_read_87
  have hL1 : ∀ (n : Nat) (z1 : (Nat → Int32) × (Nat → Int32) × Int32 × Int32 × Int32 × Int32) (H : Heap) (locs : List Loc) (ls : Array Slot), lp (f_X3_read_b18 bt le p0) n z1 = some q1 → va_P G vwCl (wX cI cZ aX bt z1.1 z1.2.1 le z1.2.2.1 z1.2.2.2.1 z1.2.2.2.2.1 ++ ([] : va_W)) H → va_D A (wX cI cZ aX bt z1.1 z1.2.1 le z1.2.2.1 z1.2.2.2.1 z1.2.2.2.2.1 ++ ([] : va_W)) → va_S A s.heap H locs → lv_has ls 3 [(0, .ref (aX 0)), (1, .int p0), (2, .int z1.2.2.2.2.2)] → W p l ev ({ frames := 4, cells := 0, slots := 0, locals := 88 } : Room) s m ([.ref (aX 0), .int p0] : List Value).toArray below meth c H locs 0 0 (MQ below (qI G (ty5 cI cJ cZ cO cA) A (wX cI cZ aX bt res.2.1 res.2.2.1 le res.2.2.2.1 res.2.2.2.2.1 res.2.2.2.2.2 ++ ([] : va_W)) res.1) ([.ref (aX 0), .int p0] : List Value).toArray s 0 0 A) (F0 m 18 ls []) := by
    intro n
    induction n with
    | zero => intro z1 H locs ls h; cases h
    | succ n ih1 =>
      intro z1 H locs ls h hP hD hS hl
      obtain ⟨o1, h, h1⟩ := lp_s h
      unfold f_X3_read_b18 at h
      refine lv_iload_n hx hb dX3_read_18 rfl (lv_at hl 2 rfl) ?_
      refine lv_bipush (v := 10) hx hb dX3_read_19 (by decide) ?_
      refine lv_icmp_gt (tgt := 83) hx hb dX3_read_21 (by decide) (fun c2 => ?_) (fun c2 => ?_)
      · replace h := (if_pos c2).symm.trans h
        rw [← Option.some.inj h] at h1
        exact hX1_2 (z1.1, z1.2.1, z1.2.2.1, z1.2.2.2.1, z1.2.2.2.2.1) _ _ _ (lp_x h1) hP hD hS (lv_sub hl [0] rfl)
      · replace h := (if_neg c2).symm.trans h
        refine lv_aload_n hx hb dX3_read_24 rfl (lv_at hl 0 rfl) ?_
        refine lv_iload_n hx hb dX3_read_25 rfl (lv_at hl 1 rfl) ?_
        refine lv_bipush (v := 10) hx hb dX3_read_26 (by decide) ?_
        refine va_mmin hx hb (hml.trans hl.1.symm) hown (hts _ kw436) (hts _ kw379) (hts _ kw8) (hts _ kw380) (Nat.le_of_ble_eq_true rfl) (Nat.le_of_ble_eq_true rfl) (Nat.zero_le _) (Nat.zero_le _) dX3_read_28 ?_
        obtain ⟨q3, hq3, h⟩ := bd_s h
        refine kVv (n := 1) (C := RX3) (ws' := wX cI cZ aX bt q3.1 q3.2.1 le q3.2.2.1 q3.2.2.2.1 q3.2.2.2.2 ++ ([] : va_W)) (As := [.int (if 10 < p0 then 10 else p0)]) (rest := []) hx hb hml hown hts (c_X3_readRequest l G cI cJ cZ cO cA e aX _ bt z1.1 z1.2.1 le z1.2.2.1 z1.2.2.2.1 z1.2.2.2.2.1 (if 10 < p0 then 10 else p0) hq3) (tb_V kw437 kw439 kv7 kw6 kw440) rfl rfl (by decide +kernel) ⟨Nat.le_of_ble_eq_true rfl, Nat.le_of_ble_eq_true rfl⟩ hK hP hD hS hA hE 0 rfl rfl [0, 1, 2, 3] [] rfl rfl rfl 4 ⟨rfl, rfl⟩ (by decide +kernel) (by decide +kernel) rfl rfl hl.1 (Nat.le_of_ble_eq_true rfl) ⟨Nat.zero_le _, Nat.zero_le _⟩ dX3_read_31 (fun H locs hP hD hS => ?_)
        refine lv_aload_n hx hb dX3_read_34 rfl (lv_at hl 0 rfl) ?_
        obtain ⟨q4, hq4, h⟩ := bd_s h
        refine kVv (n := 0) (C := RX3) (ws' := wX cI cZ aX bt q3.1 q3.2.1 le q3.2.2.1 q4 q3.2.2.2.2 ++ ([] : va_W)) (As := []) (rest := []) hx hb hml hown hts (c_X3_skipBlanks l G cI cJ cZ cO cA e aX _ bt q3.1 q3.2.1 le q3.2.2.1 q3.2.2.2.1 q3.2.2.2.2 hq4) (tb_V kw441 kw443 kv8 kw6 kw444) rfl rfl (by decide +kernel) ⟨Nat.le_of_ble_eq_true rfl, Nat.le_of_ble_eq_true rfl⟩ hK hP hD hS hA hE 0 rfl rfl [0, 1, 2, 3] [] rfl rfl rfl 4 ⟨rfl, rfl⟩ (by decide +kernel) (by decide +kernel) rfl rfl hl.1 (Nat.le_of_ble_eq_true rfl) ⟨Nat.zero_le _, Nat.zero_le _⟩ dX3_read_35 (fun H locs hP hD hS => ?_)
        refine lv_aload_n hx hb dX3_read_38 rfl (lv_at hl 0 rfl) ?_
        refine va_get (D := G) (ci := 3) (v := .int q3.2.2.2.2) (C := RX3) (T := TX3) (N := 7) hx hb hts uX3 hown hK hP 0 rfl rfl 6 (by decide) (hts _ kw148) (fun _ h9 => h9) rfl dX3_read_39 ?_
        refine lv_ldc (v := (-2000000000)) hx hb hown (hts _ kw138) dX3_read_42 ?_
        refine lv_icmp_ne (tgt := 58) hx hb dX3_read_44 (by decide) (fun c5 => ?_) (fun c5 => ?_)
        · replace h := (if_neg c5).symm.trans h
          rw [← Option.some.inj h] at h1
          exact hX1_0 (q3.1, q3.2.1, q3.2.2.1, q4, q3.2.2.2.2) _ _ _ (lp_x h1) hP hD hS (lv_sub hl [0] rfl)
        · replace h := (if_pos c5).symm.trans h
          refine lv_aload_n hx hb dX3_read_47 rfl (lv_at hl 0 rfl) ?_
          refine va_get (D := G) (ci := 3) (v := .int q4) (C := RX3) (T := TX3) (N := 7) hx hb hts uX3 hown hK hP 0 rfl rfl 5 (by decide) (hts _ kw147) (fun _ h9 => h9) rfl dX3_read_48 ?_
          refine lv_aload_n hx hb dX3_read_51 rfl (lv_at hl 0 rfl) ?_
          refine va_get (D := G) (ci := 3) (v := .int le) (C := RX3) (T := TX3) (N := 7) hx hb hts uX3 hown hK hP 0 rfl rfl 3 (by decide) (hts _ kw144) (fun _ h9 => h9) rfl dX3_read_52 ?_
          refine lv_icmp_lt (tgt := 63) hx hb dX3_read_55 (by decide) (fun c6 => ?_) (fun c6 => ?_)
          · replace h := (if_pos c6).symm.trans h
            refine lv_aload_n hx hb dX3_read_63 rfl (lv_at hl 0 rfl) ?_
            refine lv_bipush (v := 59) hx hb dX3_read_64 (by decide) ?_
            obtain ⟨q7, hq7, h⟩ := bd_s h
            refine kVi (n := 1) (C := RX3) (ws' := wX cI cZ aX bt q3.1 q3.2.1 le q3.2.2.1 q7.2 q3.2.2.2.2 ++ ([] : va_W)) (As := [.int 59]) (rest := []) hx hb hml hown hts (c_X3_accept l G cI cJ cZ cO cA e aX _ bt q3.1 q3.2.1 le q3.2.2.1 q4 q3.2.2.2.2 59 hq7) (tb_V kw445 kw447 kv9 kw6 kw448) rfl rfl (by decide +kernel) ⟨Nat.le_of_ble_eq_true rfl, Nat.le_of_ble_eq_true rfl⟩ hK hP hD hS hA hE 0 rfl rfl [0, 1, 2, 3] [] rfl rfl rfl 4 ⟨rfl, rfl⟩ (by decide +kernel) (by decide +kernel) rfl rfl hl.1 (Nat.le_of_ble_eq_true rfl) ⟨Nat.zero_le _, Nat.zero_le _⟩ dX3_read_66 (fun H locs hP hD hS => ?_)
            refine lv_if_ne (tgt := 77) hx hb dX3_read_69 (by decide) (fun c8 => ?_) (fun c8 => ?_)
            · replace h := (if_neg c8).symm.trans h
              refine lv_iinc (v := (z1.2.2.2.2.2 + 1)) (lv' := [(2, .int (z1.2.2.2.2.2 + 1)), (0, .ref (aX 0)), (1, .int p0)]) hx hb dX3_read_77 hl (k := 2) rfl rfl (by decide) rfl (fun ls hl => ?_)
              refine lv_goto (tgt := 18) hx hb dX3_read_80 (by decide) ?_
              rw [← Option.some.inj h] at h1
              exact ih1 (q3.1, q3.2.1, q3.2.2.1, q7.2, q3.2.2.2.2, (z1.2.2.2.2.2 + 1)) _ _ _ (lp_b h1) hP hD hS (lv_sub hl [1, 2, 0] rfl)
            · replace h := (if_pos c8).symm.trans h
              rw [← Option.some.inj h] at h1
              exact hX1_1 (q3.1, q3.2.1, q3.2.2.1, q7.2, q3.2.2.2.2) _ _ _ (lp_x h1) hP hD hS (lv_sub hl [0] rfl)
          · replace h := (if_neg c6).symm.trans h
            rw [← Option.some.inj h] at h1
            exact hX1_0 (q3.1, q3.2.1, q3.2.2.1, q4, q3.2.2.2.2) _ _ _ (lp_x h1) hP hD hS (lv_sub hl [0] rfl)
  exact hL1 _ (pa, ug, 0, 0, (-2000000000), 0) _ _ _ hq1 hP hD hS (lv_sub hl [1, 2, 0] rfl)

/-! X4_load -/
def f_X4_load_b38 (pa : Nat → Int32) (ug : Nat → Int32) (rn : Int32) (z4 : (Nat → Int32) × Int32 × Int32) : Option (((Nat → Int32) × Int32 × Int32) ⊕ ((Nat → Int32) × Int32)) :=
  if rn ≤ z4.2.2 then (some (Sum.inr (z4.1, z4.2.1))) else (gd (ib (z4.2.2 * 3) 30) (gd (ib ((z4.2.2 * 3) + 1) 30) (gd (ib ((z4.2.2 * 3) + 2) 30) (gd (ib z4.2.2 10) ((f_X2_insertRequest z4.1 z4.2.1 (pa (z4.2.2 * 3).toNatClampNeg) (pa ((z4.2.2 * 3) + 1).toNatClampNeg) (pa ((z4.2.2 * 3) + 2).toNatClampNeg) (ug z4.2.2.toNatClampNeg)).bind (fun q10 => some (Sum.inl (q10.1, q10.2, (z4.2.2 + 1)))))))))
def f_X4_load (pr : Nat → Int32) (pu : Nat → Int32) (ta : Nat → Int32) (se : Nat → Int32) (im : Nat → Int32) (su : Nat → Int64) (tc : Int32) (sc : Int32) (cn : Int32) (so : Int32) (bt : Nat → Int32) (le : Int32) (qu : Nat → Int32) (rc : Int32) (pa : Nat → Int32) (ug : Nat → Int32) (rn : Int32) (ax : Int32) (fa : Int32) (hs : Nat → SV) (ol : Int32) (ct : Int32) : Option (Int32 × (Nat → Int32) × Int32 × (Nat → Int32) × (Nat → Int32) × Int32 × Int32 × Int32 × (Nat → SV) × Int32 × Int32) :=
  (f_X3_read bt le pa ug rn ax fa (10 - rc)).bind (fun q1 => if q1.1 = (-2000000000) then ((f_X0_keep pr pu ta se qu im su tc sc rc cn so hs ol ct).bind (fun q3 => (lp (f_X4_load_b38 q1.2.1 q1.2.2.1 q1.2.2.2.1) 1000 (qu, rc, 0)).bind (fun q4 => some (q4.2, q4.1, q4.2, q1.2.1, q1.2.2.1, q1.2.2.2.1, q1.2.2.2.2.1, q1.2.2.2.2.2, q3.1, q3.2.1, q3.2.2)))) else (some ((-2000000003), qu, rc, q1.2.1, q1.2.2.1, q1.2.2.2.1, q1.2.2.2.2.1, q1.2.2.2.2.2, hs, ol, ct)))

set_option maxHeartbeats 4000000 in
set_option maxRecDepth 100000 in
theorem c_X4_load (l : Launch) (G : va_G) (cI cJ cZ cO cA : ClassId) (e : Nat × Nat) (aT : Nat) (aS : Nat → Nat) (aH : Nat → Nat) (aE : Nat → Nat) (aX : Nat → Nat) (aK : Nat → Nat → Nat) (sz : Nat) (pr : Nat → Int32) (pu : Nat → Int32) (ta : Nat → Int32) (se : Nat → Int32) (qu : Nat → Int32) (im : Nat → Int32) (su : Nat → Int64) (tc : Int32) (sc : Int32) (rc : Int32) (cn : Int32) (so : Int32) (bt : Nat → Int32) (pa : Nat → Int32) (ug : Nat → Int32) (le : Int32) (rn : Int32) (ax : Int32) (fa : Int32) (hs : Nat → SV) (ol : Int32) (ct : Int32) {res : Int32 × (Nat → Int32) × Int32 × (Nat → Int32) × (Nat → Int32) × Int32 × Int32 × Int32 × (Nat → SV) × Int32 × Int32} (hf : f_X4_load pr pu ta se im su tc sc cn so bt le qu rc pa ug rn ax fa hs ol ct = some res) : MetI l yX4_load cX4_load 3 .int ({ frames := 5, cells := 0, slots := 0, locals := 110 } : Room) [.ref aT] G (ty5 cI cJ cZ cO cA) e (wT aT (aS 0) (aH 0) (aE 0) (aX 0) ++ (wS cI cJ aS pr pu ta se qu im su tc sc rc cn so ++ (wX cI cZ aX bt pa ug le rn ax fa ++ (wH cI cJ cO aH aK hs ol ct ++ ([] : va_W))))) (wT aT (aS 0) (aH 0) (aE 0) (aX 0) ++ (wS cI cJ aS pr pu ta se res.2.1 im su tc sc res.2.2.1 cn so ++ (wX cI cZ aX bt res.2.2.2.1 res.2.2.2.2.1 le res.2.2.2.2.2.1 res.2.2.2.2.2.2.1 res.2.2.2.2.2.2.2.1 ++ (wH cI cJ cO aH aK res.2.2.2.2.2.2.2.2.1 res.2.2.2.2.2.2.2.2.2.1 res.2.2.2.2.2.2.2.2.2.2 ++ ([] : va_W))))) sz res.1 := by
  refine g_body (QQ := fun A => (qI G (ty5 cI cJ cZ cO cA) A (wT aT (aS 0) (aH 0) (aE 0) (aX 0) ++ (wS cI cJ aS pr pu ta se res.2.1 im su tc sc res.2.2.1 cn so ++ (wX cI cZ aX bt res.2.2.2.1 res.2.2.2.2.1 le res.2.2.2.2.2.1 res.2.2.2.2.2.2.1 res.2.2.2.2.2.2.2.1 ++ (wH cI cJ cO aH aK res.2.2.2.2.2.2.2.2.1 res.2.2.2.2.2.2.2.2.2.1 res.2.2.2.2.2.2.2.2.2.2 ++ ([] : va_W))))) res.1)) (own := RX4) (by decide) rfl (Nat.le_of_ble_eq_true rfl) ?_
  intro p ev s m below meth c A ls hx hb hr hml hown hts hlk hA hP hD hS hK hE hl
  have hl : lv_has ls 3 [(0, .ref aT)] := hl
  show W p l ev ({ frames := 5, cells := 0, slots := 0, locals := 110 } : Room) s m ([.ref aT] : List Value).toArray below meth c s.heap [] 0 0 (MQ below (qI G (ty5 cI cJ cZ cO cA) A (wT aT (aS 0) (aH 0) (aE 0) (aX 0) ++ (wS cI cJ aS pr pu ta se res.2.1 im su tc sc res.2.2.1 cn so ++ (wX cI cZ aX bt res.2.2.2.1 res.2.2.2.2.1 le res.2.2.2.2.2.1 res.2.2.2.2.2.2.1 res.2.2.2.2.2.2.2.1 ++ (wH cI cJ cO aH aK res.2.2.2.2.2.2.2.2.1 res.2.2.2.2.2.2.2.2.2.1 res.2.2.2.2.2.2.2.2.2.2 ++ ([] : va_W))))) res.1) ([.ref aT] : List Value).toArray s 0 0 A) (F0 m 0 ls [])
  have h := hf
  unfold f_X4_load at h
  refine lv_aload_n hx hb dX4_load_0 rfl (lv_at hl 0 rfl) ?_
  refine va_get (D := G) (ci := 4) (v := .ref (aX 0)) (C := RX4) (T := TX4) (N := 4) hx hb hts uX4 hown hK hP 0 rfl rfl 3 (by decide) (hts _ kw168) (fun _ h9 => h9) rfl dX4_load_1 ?_
  refine lv_bipush (v := 10) hx hb dX4_load_4 (by decide) ?_
  refine lv_aload_n hx hb dX4_load_6 rfl (lv_at hl 0 rfl) ?_
  refine va_get (D := G) (ci := 4) (v := .ref (aS 0)) (C := RX4) (T := TX4) (N := 4) hx hb hts uX4 hown hK hP 0 rfl rfl 0 (by decide) (hts _ kw165) (fun _ h9 => h9) rfl dX4_load_7 ?_
  refine va_getN (D := G) (ci := 2) (v := .int rc) (C := RX2) (T := TX2) (N := 12) hx hb hts uX2 hown hK hP 1 rfl rfl 9 (by decide) (hE.nw nk46) (fun _ h9 => h9) rfl dX4_load_10 ?_
  refine lv_isub hx hb dX4_load_13 ?_
  obtain ⟨q1, hq1, h⟩ := bd_s h
  refine kVi (n := 1) (C := RX3) (ws' := wT aT (aS 0) (aH 0) (aE 0) (aX 0) ++ (wS cI cJ aS pr pu ta se qu im su tc sc rc cn so ++ (wX cI cZ aX bt q1.2.1 q1.2.2.1 le q1.2.2.2.1 q1.2.2.2.2.1 q1.2.2.2.2.2 ++ (wH cI cJ cO aH aK hs ol ct ++ ([] : va_W))))) (As := [.int (10 - rc)]) (rest := []) hx hb hml hown hts (c_X3_read l G cI cJ cZ cO cA e aX _ bt pa ug le rn ax fa (10 - rc) hq1) (tb_V kw432 kw433 kw434 kw6 kw435) rfl rfl (by decide +kernel) ⟨Nat.le_of_ble_eq_true rfl, Nat.le_of_ble_eq_true rfl⟩ hK hP hD hS hA hE 9 rfl rfl [9, 10, 11, 12] [0, 1, 2, 3, 4, 5, 6, 7, 8, 13, 14, 15, 16, 17, 18, 19, 20, 21, 22, 23, 24, 25, 26, 27, 28, 29, 30, 31, 32, 33, 34, 35, 36, 37, 38, 39, 40, 41, 42, 43, 44, 45, 46, 47, 48, 49, 50, 51, 52, 53, 54] rfl rfl rfl 55 ⟨rfl, rfl⟩ (by decide +kernel) (by decide +kernel) rfl rfl hl.1 (Nat.le_of_ble_eq_true rfl) ⟨Nat.zero_le _, Nat.zero_le _⟩ dX4_load_14 (fun H locs hP hD hS => ?_)
  refine lv_ldc (v := (-2000000000)) hx hb hown (hts _ kw333) dX4_load_17 ?_
  refine lv_icmp_eq (tgt := 25) hx hb dX4_load_19 (by decide) (fun c2 => ?_) (fun c2 => ?_)
  · replace h := (if_pos c2).symm.trans h
    refine lv_aload_n hx hb dX4_load_25 rfl (lv_at hl 0 rfl) ?_
    refine va_get (D := G) (ci := 4) (v := .ref (aH 0)) (C := RX4) (T := TX4) (N := 4) hx hb hts uX4 hown hK hP 0 rfl rfl 1 (by decide) (hts _ kw166) (fun _ h9 => h9) rfl dX4_load_26 ?_
    refine lv_aload_n hx hb dX4_load_29 rfl (lv_at hl 0 rfl) ?_
    refine va_get (D := G) (ci := 4) (v := .ref (aS 0)) (C := RX4) (T := TX4) (N := 4) hx hb hts uX4 hown hK hP 0 rfl rfl 0 (by decide) (hts _ kw165) (fun _ h9 => h9) rfl dX4_load_30 ?_
    obtain ⟨q3, hq3, h⟩ := bd_s h
    refine kVv (n := 1) (C := RX0) (ws' := wT aT (aS 0) (aH 0) (aE 0) (aX 0) ++ (wS cI cJ aS pr pu ta se qu im su tc sc rc cn so ++ (wX cI cZ aX bt q1.2.1 q1.2.2.1 le q1.2.2.2.1 q1.2.2.2.2.1 q1.2.2.2.2.2 ++ (wH cI cJ cO aH aK q3.1 q3.2.1 q3.2.2 ++ ([] : va_W))))) (As := [.ref (aS 0)]) (rest := []) hx hb hml hown hts (c_X0_keep l G cI cJ cZ cO cA e aS aH aK _ pr pu ta se qu im su tc sc rc cn so hs ol ct hq3) (tb_V kw194 kw195 kw196 kw4 kw197) rfl rfl (by decide +kernel) ⟨Nat.le_of_ble_eq_true rfl, Nat.le_of_ble_eq_true rfl⟩ hK hP hD hS hA hE 13 rfl rfl [1, 2, 3, 4, 5, 6, 7, 8, 13, 14, 15, 16, 17, 18, 19, 20, 21, 22, 23, 24, 25, 26, 27, 28, 29, 30, 31, 32, 33, 34, 35, 36, 37, 38, 39, 40, 41, 42, 43, 44, 45, 46, 47, 48, 49, 50, 51, 52, 53, 54] [0, 9, 10, 11, 12] rfl rfl rfl 55 ⟨rfl, rfl⟩ (by decide +kernel) (by decide +kernel) rfl rfl hl.1 (Nat.le_of_ble_eq_true rfl) ⟨Nat.zero_le _, Nat.zero_le _⟩ dX4_load_33 (fun H locs hP hD hS => ?_)
    refine lv_iconst (v := 0) hx hb dX4_load_36 (by decide) ?_
    refine lv_istore_n (lv' := [(1, .int 0), (0, .ref aT)]) hx hb dX4_load_37 rfl hl (by decide) rfl (fun ls hl => ?_)
    obtain ⟨q4, hq4, h⟩ := bd_s h
    have hX4_0 : ∀ (x4 : (Nat → Int32) × Int32) (H : Heap) (locs : List Loc) (ls : Array Slot), x4 = q4 → va_P G vwCl (wT aT (aS 0) (aH 0) (aE 0) (aX 0) ++ (wS cI cJ aS pr pu ta se x4.1 im su tc sc x4.2 cn so ++ (wX cI cZ aX bt q1.2.1 q1.2.2.1 le q1.2.2.2.1 q1.2.2.2.2.1 q1.2.2.2.2.2 ++ (wH cI cJ cO aH aK q3.1 q3.2.1 q3.2.2 ++ ([] : va_W))))) H → va_D A (wT aT (aS 0) (aH 0) (aE 0) (aX 0) ++ (wS cI cJ aS pr pu ta se x4.1 im su tc sc x4.2 cn so ++ (wX cI cZ aX bt q1.2.1 q1.2.2.1 le q1.2.2.2.1 q1.2.2.2.2.1 q1.2.2.2.2.2 ++ (wH cI cJ cO aH aK q3.1 q3.2.1 q3.2.2 ++ ([] : va_W))))) → va_S A s.heap H locs → lv_has ls 3 [(0, .ref aT)] → W p l ev ({ frames := 5, cells := 0, slots := 0, locals := 110 } : Room) s m ([.ref aT] : List Value).toArray below meth c H locs 0 0 (MQ below (qI G (ty5 cI cJ cZ cO cA) A (wT aT (aS 0) (aH 0) (aE 0) (aX 0) ++ (wS cI cJ aS pr pu ta se res.2.1 im su tc sc res.2.2.1 cn so ++ (wX cI cZ aX bt res.2.2.2.1 res.2.2.2.2.1 le res.2.2.2.2.2.1 res.2.2.2.2.2.2.1 res.2.2.2.2.2.2.2.1 ++ (wH cI cJ cO aH aK res.2.2.2.2.2.2.2.2.1 res.2.2.2.2.2.2.2.2.2.1 res.2.2.2.2.2.2.2.2.2.2 ++ ([] : va_W))))) res.1) ([.ref aT] : List Value).toArray s 0 0 A) (F0 m 106 ls []) := by
      intro x4 H locs ls e4 hP hD hS hl
      replace e4 := e4.symm
      subst e4
      refine lv_aload_n hx hb dX4_load_106 rfl (lv_at hl 0 rfl) ?_
      refine va_get (D := G) (ci := 4) (v := .ref (aS 0)) (C := RX4) (T := TX4) (N := 4) hx hb hts uX4 hown hK hP 0 rfl rfl 0 (by decide) (hts _ kw165) (fun _ h9 => h9) rfl dX4_load_107 ?_
      refine va_getN (D := G) (ci := 2) (v := .int q4.2) (C := RX2) (T := TX2) (N := 12) hx hb hts uX2 hown hK hP 1 rfl rfl 9 (by decide) (hE.nw nk46) (fun _ h9 => h9) rfl dX4_load_110 ?_
      rw [← Option.some.inj h]
      exact kri hx hb hr hlk rfl rfl hP hD hS hK dX4_load_113
    have hL4 : ∀ (n : Nat) (z4 : (Nat → Int32) × Int32 × Int32) (H : Heap) (locs : List Loc) (ls : Array Slot), lp (f_X4_load_b38 q1.2.1 q1.2.2.1 q1.2.2.2.1) n z4 = some q4 → va_P G vwCl (wT aT (aS 0) (aH 0) (aE 0) (aX 0) ++ (wS cI cJ aS pr pu ta se z4.1 im su tc sc z4.2.1 cn so ++ (wX cI cZ aX bt q1.2.1 q1.2.2.1 le q1.2.2.2.1 q1.2.2.2.2.1 q1.2.2.2.2.2 ++ (wH cI cJ cO aH aK q3.1 q3.2.1 q3.2.2 ++ ([] : va_W))))) H → va_D A (wT aT (aS 0) (aH 0) (aE 0) (aX 0) ++ (wS cI cJ aS pr pu ta se z4.1 im su tc sc z4.2.1 cn so ++ (wX cI cZ aX bt q1.2.1 q1.2.2.1 le q1.2.2.2.1 q1.2.2.2.2.1 q1.2.2.2.2.2 ++ (wH cI cJ cO aH aK q3.1 q3.2.1 q3.2.2 ++ ([] : va_W))))) → va_S A s.heap H locs → lv_has ls 3 [(0, .ref aT), (1, .int z4.2.2)] → W p l ev ({ frames := 5, cells := 0, slots := 0, locals := 110 } : Room) s m ([.ref aT] : List Value).toArray below meth c H locs 0 0 (MQ below (qI G (ty5 cI cJ cZ cO cA) A (wT aT (aS 0) (aH 0) (aE 0) (aX 0) ++ (wS cI cJ aS pr pu ta se res.2.1 im su tc sc res.2.2.1 cn so ++ (wX cI cZ aX bt res.2.2.2.1 res.2.2.2.2.1 le res.2.2.2.2.2.1 res.2.2.2.2.2.2.1 res.2.2.2.2.2.2.2.1 ++ (wH cI cJ cO aH aK res.2.2.2.2.2.2.2.2.1 res.2.2.2.2.2.2.2.2.2.1 res.2.2.2.2.2.2.2.2.2.2 ++ ([] : va_W))))) res.1) ([.ref aT] : List Value).toArray s 0 0 A) (F0 m 38 ls []) := by
      intro n
      induction n with
      | zero => intro z4 H locs ls h; cases h
      | succ n ih4 =>
        intro z4 H locs ls h hP hD hS hl
        obtain ⟨o4, h, h4⟩ := lp_s h
        unfold f_X4_load_b38 at h
        refine lv_iload_n hx hb dX4_load_38 rfl (lv_at hl 1 rfl) ?_
        refine lv_aload_n hx hb dX4_load_39 rfl (lv_at hl 0 rfl) ?_
        refine va_get (D := G) (ci := 4) (v := .ref (aX 0)) (C := RX4) (T := TX4) (N := 4) hx hb hts uX4 hown hK hP 0 rfl rfl 3 (by decide) (hts _ kw168) (fun _ h9 => h9) rfl dX4_load_40 ?_
        refine va_getN (D := G) (ci := 3) (v := .int q1.2.2.2.1) (C := RX3) (T := TX3) (N := 7) hx hb hts uX3 hown hK hP 9 rfl rfl 4 (by decide) (hE.nw nk146) (fun _ h9 => h9) rfl dX4_load_43 ?_
        refine lv_icmp_ge (tgt := 106) hx hb dX4_load_46 (by decide) (fun c5 => ?_) (fun c5 => ?_)
        · replace h := (if_pos c5).symm.trans h
          rw [← Option.some.inj h] at h4
          exact hX4_0 (z4.1, z4.2.1) _ _ _ (lp_x h4) hP hD hS (lv_sub hl [0] rfl)
        · replace h := (if_neg c5).symm.trans h
          refine lv_iload_n hx hb dX4_load_49 rfl (lv_at hl 1 rfl) ?_
          refine lv_iconst (v := 3) hx hb dX4_load_50 (by decide) ?_
          refine lv_imul hx hb dX4_load_51 ?_
          refine lv_istore_n (lv' := [(2, .int (z4.2.2 * 3)), (0, .ref aT), (1, .int z4.2.2)]) hx hb dX4_load_52 rfl hl (by decide) rfl (fun ls hl => ?_)
          refine lv_aload_n hx hb dX4_load_53 rfl (lv_at hl 1 rfl) ?_
          refine va_get (D := G) (ci := 4) (v := .ref (aS 0)) (C := RX4) (T := TX4) (N := 4) hx hb hts uX4 hown hK hP 0 rfl rfl 0 (by decide) (hts _ kw165) (fun _ h9 => h9) rfl dX4_load_54 ?_
          refine lv_aload_n hx hb dX4_load_57 rfl (lv_at hl 1 rfl) ?_
          refine va_get (D := G) (ci := 4) (v := .ref (aX 0)) (C := RX4) (T := TX4) (N := 4) hx hb hts uX4 hown hK hP 0 rfl rfl 3 (by decide) (hts _ kw168) (fun _ h9 => h9) rfl dX4_load_58 ?_
          refine va_getN (D := G) (ci := 3) (v := .ref (aX 2)) (C := RX3) (T := TX3) (N := 7) hx hb hts uX3 hown hK hP 9 rfl rfl 1 (by decide) (hE.nw nk141) (fun _ h9 => h9) rfl dX4_load_61 ?_
          refine lv_iload_n hx hb dX4_load_64 rfl (lv_at hl 0 rfl) ?_
          obtain ⟨g6, h⟩ := gd_s h
          refine va_iald hx hb hK hP 11 0 rfl rfl (ib_in g6) dX4_load_65 ?_
          refine lv_aload_n hx hb dX4_load_66 rfl (lv_at hl 1 rfl) ?_
          refine va_get (D := G) (ci := 4) (v := .ref (aX 0)) (C := RX4) (T := TX4) (N := 4) hx hb hts uX4 hown hK hP 0 rfl rfl 3 (by decide) (hts _ kw168) (fun _ h9 => h9) rfl dX4_load_67 ?_
          refine va_getN (D := G) (ci := 3) (v := .ref (aX 2)) (C := RX3) (T := TX3) (N := 7) hx hb hts uX3 hown hK hP 9 rfl rfl 1 (by decide) (hE.nw nk141) (fun _ h9 => h9) rfl dX4_load_70 ?_
          refine lv_iload_n hx hb dX4_load_73 rfl (lv_at hl 0 rfl) ?_
          refine lv_iconst (v := 1) hx hb dX4_load_74 (by decide) ?_
          refine lv_iadd hx hb dX4_load_75 ?_
          obtain ⟨g7, h⟩ := gd_s h
          refine va_iald hx hb hK hP 11 0 rfl rfl (ib_in g7) dX4_load_76 ?_
          refine lv_aload_n hx hb dX4_load_77 rfl (lv_at hl 1 rfl) ?_
          refine va_get (D := G) (ci := 4) (v := .ref (aX 0)) (C := RX4) (T := TX4) (N := 4) hx hb hts uX4 hown hK hP 0 rfl rfl 3 (by decide) (hts _ kw168) (fun _ h9 => h9) rfl dX4_load_78 ?_
          refine va_getN (D := G) (ci := 3) (v := .ref (aX 2)) (C := RX3) (T := TX3) (N := 7) hx hb hts uX3 hown hK hP 9 rfl rfl 1 (by decide) (hE.nw nk141) (fun _ h9 => h9) rfl dX4_load_81 ?_
          refine lv_iload_n hx hb dX4_load_84 rfl (lv_at hl 0 rfl) ?_
          refine lv_iconst (v := 2) hx hb dX4_load_85 (by decide) ?_
          refine lv_iadd hx hb dX4_load_86 ?_
          obtain ⟨g8, h⟩ := gd_s h
          refine va_iald hx hb hK hP 11 0 rfl rfl (ib_in g8) dX4_load_87 ?_
          refine lv_aload_n hx hb dX4_load_88 rfl (lv_at hl 1 rfl) ?_
          refine va_get (D := G) (ci := 4) (v := .ref (aX 0)) (C := RX4) (T := TX4) (N := 4) hx hb hts uX4 hown hK hP 0 rfl rfl 3 (by decide) (hts _ kw168) (fun _ h9 => h9) rfl dX4_load_89 ?_
          refine va_getN (D := G) (ci := 3) (v := .ref (aX 3)) (C := RX3) (T := TX3) (N := 7) hx hb hts uX3 hown hK hP 9 rfl rfl 2 (by decide) (hE.nw nk143) (fun _ h9 => h9) rfl dX4_load_92 ?_
          refine lv_iload_n hx hb dX4_load_95 rfl (lv_at hl 2 rfl) ?_
          obtain ⟨g9, h⟩ := gd_s h
          refine va_zald hx hb hK hP 12 2 rfl rfl (ib_in g9) dX4_load_96 ?_
          obtain ⟨q10, hq10, h⟩ := bd_s h
          refine kVv (n := 4) (C := RX2) (ws' := wT aT (aS 0) (aH 0) (aE 0) (aX 0) ++ (wS cI cJ aS pr pu ta se q10.1 im su tc sc q10.2 cn so ++ (wX cI cZ aX bt q1.2.1 q1.2.2.1 le q1.2.2.2.1 q1.2.2.2.2.1 q1.2.2.2.2.2 ++ (wH cI cJ cO aH aK q3.1 q3.2.1 q3.2.2 ++ ([] : va_W))))) (As := [.int (q1.2.1 (z4.2.2 * 3).toNatClampNeg), .int (q1.2.1 ((z4.2.2 * 3) + 1).toNatClampNeg), .int (q1.2.1 ((z4.2.2 * 3) + 2).toNatClampNeg), .int (q1.2.2.1 z4.2.2.toNatClampNeg)]) (rest := []) hx hb hml hown hts (c_X2_insertRequest l G cI cJ cZ cO cA e aS _ pr pu ta se z4.1 im su tc sc z4.2.1 cn so (q1.2.1 (z4.2.2 * 3).toNatClampNeg) (q1.2.1 ((z4.2.2 * 3) + 1).toNatClampNeg) (q1.2.1 ((z4.2.2 * 3) + 2).toNatClampNeg) (q1.2.2.1 z4.2.2.toNatClampNeg) hq10) (tb_V kw460 kw461 kw462 kw2 kw463) rfl rfl (by decide +kernel) ⟨Nat.le_of_ble_eq_true rfl, Nat.le_of_ble_eq_true rfl⟩ hK hP hD hS hA hE 1 rfl rfl [1, 2, 3, 4, 5, 6, 7, 8] [0, 9, 10, 11, 12, 13, 14, 15, 16, 17, 18, 19, 20, 21, 22, 23, 24, 25, 26, 27, 28, 29, 30, 31, 32, 33, 34, 35, 36, 37, 38, 39, 40, 41, 42, 43, 44, 45, 46, 47, 48, 49, 50, 51, 52, 53, 54] rfl rfl rfl 55 ⟨rfl, rfl⟩ (by decide +kernel) (by decide +kernel) rfl rfl hl.1 (Nat.le_of_ble_eq_true rfl) ⟨Nat.zero_le _, Nat.zero_le _⟩ dX4_load_97 (fun H locs hP hD hS => ?_)
          refine lv_iinc (v := (z4.2.2 + 1)) (lv' := [(1, .int (z4.2.2 + 1)), (2, .int (z4.2.2 * 3)), (0, .ref aT)]) hx hb dX4_load_100 hl (k := 2) rfl rfl (by decide) rfl (fun ls hl => ?_)
          refine lv_goto (tgt := 38) hx hb dX4_load_103 (by decide) ?_
          rw [← Option.some.inj h] at h4
          exact ih4 (q10.1, q10.2, (z4.2.2 + 1)) _ _ _ (lp_b h4) hP hD hS (lv_sub hl [2, 0] rfl)
    exact hL4 _ (qu, rc, 0) _ _ _ hq4 hP hD hS (lv_sub hl [1, 0] rfl)
  · replace h := (if_neg c2).symm.trans h
    refine lv_ldc (v := (-2000000003)) hx hb hown (hts _ kw275) dX4_load_22 ?_
    rw [← Option.some.inj h]
    exact kri hx hb hr hlk rfl rfl hP hD hS hK dX4_load_24

/-! X4_digest -/
def f_X4_digest_b29 (pr : Nat → Int32) (v3 : Int32) (z3 : Int64 × Int32) : Option ((Int64 × Int32) ⊕ (Int64)) :=
  if 7 ≤ z3.2 then (some (Sum.inr z3.1)) else ((f_X2_property pr v3 z3.2).bind (fun q5 => some (Sum.inl (((31 * z3.1) + q5.toInt64), (z3.2 + 1)))))
def f_X4_digest_b15 (pr : Nat → Int32) (pu : Nat → Int32) (tc : Int32) (z1 : Int64 × Int32) : Option ((Int64 × Int32) ⊕ (Int64)) :=
  if tc ≤ z1.2 then (some (Sum.inr z1.1)) else ((lp (f_X4_digest_b29 pr z1.2) 1000 (z1.1, 0)).bind (fun q3 => gd (ib z1.2 8) (some (Sum.inl (((31 * q3) + ((pu z1.2.toNatClampNeg).toInt64)), (z1.2 + 1))))))
def f_X4_digest_b85 (ta : Nat → Int32) (z7 : Int64 × Int32) : Option ((Int64 × Int32) ⊕ (Int64)) :=
  if 2 ≤ z7.2 then (some (Sum.inr z7.1)) else (gd (ib z7.2 2) (some (Sum.inl (((31 * z7.1) + ((ta z7.2.toNatClampNeg).toInt64)), (z7.2 + 1)))))
def f_X4_digest_b130 (qu : Nat → Int32) (rc : Int32) (z10 : Int64 × Int32) : Option ((Int64 × Int32) ⊕ (Int64)) :=
  if (rc * 3) ≤ z10.2 then (some (Sum.inr z10.1)) else (gd (ib z10.2 30) (some (Sum.inl (((31 * z10.1) + ((qu z10.2.toNatClampNeg).toInt64)), (z10.2 + 1)))))
def f_X4_digest_b168 (im : Nat → Int32) (z13 : Int64 × Int32) : Option ((Int64 × Int32) ⊕ (Int64)) :=
  if 9 ≤ z13.2 then (some (Sum.inr z13.1)) else (gd (ib z13.2 9) (some (Sum.inl (((31 * z13.1) + ((im z13.2.toNatClampNeg).toInt64)), (z13.2 + 1)))))
def f_X4_digest_b199 (su : Nat → Int64) (z16 : Int64 × Int32) : Option ((Int64 × Int32) ⊕ (Int64)) :=
  if 3 ≤ z16.2 then (some (Sum.inr z16.1)) else (gd (ib z16.2 3) (some (Sum.inl (((31 * z16.1) + (su z16.2.toNatClampNeg)), (z16.2 + 1)))))
def f_X4_digest (pr : Nat → Int32) (pu : Nat → Int32) (ta : Nat → Int32) (qu : Nat → Int32) (im : Nat → Int32) (su : Nat → Int64) (tc : Int32) (rc : Int32) (cn : Int32) : Option (Int64) :=
  (lp (f_X4_digest_b15 pr pu tc) 1000 ((527 + tc.toInt64), 0)).bind (fun q1 => (lp (f_X4_digest_b85 ta) 1000 (q1, 0)).bind (fun q7 => (lp (f_X4_digest_b130 qu rc) 1000 (((31 * q7) + rc.toInt64), 0)).bind (fun q10 => (lp (f_X4_digest_b168 im) 1000 (q10, 0)).bind (fun q13 => (lp (f_X4_digest_b199 su) 1000 (q13, 0)).bind (fun q16 => some ((31 * q16) + cn.toInt64))))))

set_option maxHeartbeats 4000000 in
set_option maxRecDepth 100000 in
theorem c_X4_digest (l : Launch) (G : va_G) (cI cJ cZ cO cA : ClassId) (e : Nat × Nat) (aT : Nat) (aS : Nat → Nat) (aH : Nat → Nat) (aE : Nat → Nat) (aX : Nat → Nat) (sz : Nat) (pr : Nat → Int32) (pu : Nat → Int32) (ta : Nat → Int32) (se : Nat → Int32) (qu : Nat → Int32) (im : Nat → Int32) (su : Nat → Int64) (tc : Int32) (sc : Int32) (rc : Int32) (cn : Int32) (so : Int32) {res : Int64} (hf : f_X4_digest pr pu ta qu im su tc rc cn = some res) : MetL l yX4_digest cX4_digest 5 ({ frames := 1, cells := 0, slots := 0, locals := 22 } : Room) [.ref aT] G (ty5 cI cJ cZ cO cA) e (wT aT (aS 0) (aH 0) (aE 0) (aX 0) ++ (wS cI cJ aS pr pu ta se qu im su tc sc rc cn so ++ ([] : va_W))) (wT aT (aS 0) (aH 0) (aE 0) (aX 0) ++ (wS cI cJ aS pr pu ta se qu im su tc sc rc cn so ++ ([] : va_W))) sz res := by
  refine g_body (QQ := fun A => (qL G (ty5 cI cJ cZ cO cA) A (wT aT (aS 0) (aH 0) (aE 0) (aX 0) ++ (wS cI cJ aS pr pu ta se qu im su tc sc rc cn so ++ ([] : va_W))) res)) (own := RX4) (by decide) rfl (Nat.le_of_ble_eq_true rfl) ?_
  intro p ev s m below meth c A ls hx hb hr hml hown hts hlk hA hP hD hS hK hE hl
  have hl : lv_has ls 5 [(0, .ref aT)] := hl
  show W p l ev ({ frames := 1, cells := 0, slots := 0, locals := 22 } : Room) s m ([.ref aT] : List Value).toArray below meth c s.heap [] 0 0 (MQ below (qL G (ty5 cI cJ cZ cO cA) A (wT aT (aS 0) (aH 0) (aE 0) (aX 0) ++ (wS cI cJ aS pr pu ta se qu im su tc sc rc cn so ++ ([] : va_W))) res) ([.ref aT] : List Value).toArray s 0 0 A) (F0 m 0 ls [])
  have h := hf
  unfold f_X4_digest at h
  refine lv_ldc2 (v := 527) hx hb hown (hts _ kw468) dX4_digest_0 ?_
  refine lv_aload_n hx hb dX4_digest_3 rfl (lv_at hl 0 rfl) ?_
  refine va_get (D := G) (ci := 4) (v := .ref (aS 0)) (C := RX4) (T := TX4) (N := 4) hx hb hts uX4 hown hK hP 0 rfl rfl 0 (by decide) (hts _ kw165) (fun _ h9 => h9) rfl dX4_digest_4 ?_
  refine va_getN (D := G) (ci := 2) (v := .int tc) (C := RX2) (T := TX2) (N := 12) hx hb hts uX2 hown hK hP 1 rfl rfl 7 (by decide) (hE.nw nk41) (fun _ h9 => h9) rfl dX4_digest_7 ?_
  refine lv_i2l (v := tc.toInt64) hx hb dX4_digest_10 rfl ?_
  refine lv_ladd hx hb dX4_digest_11 ?_
  refine lv_lstore_n (lv' := [(1, .long (527 + tc.toInt64)), (0, .ref aT)]) hx hb dX4_digest_12 rfl hl (by decide) rfl (fun ls hl => ?_)
  refine lv_iconst (v := 0) hx hb dX4_digest_13 (by decide) ?_
  refine lv_istore_n (lv' := [(3, .int 0), (1, .long (527 + tc.toInt64)), (0, .ref aT)]) hx hb dX4_digest_14 rfl hl (by decide) rfl (fun ls hl => ?_)
  obtain ⟨q1, hq1, h⟩ := bd_s h
  have hX1_0 : ∀ (x1 : Int64) (H : Heap) (locs : List Loc) (ls : Array Slot), x1 = q1 → va_P G vwCl (wT aT (aS 0) (aH 0) (aE 0) (aX 0) ++ (wS cI cJ aS pr pu ta se qu im su tc sc rc cn so ++ ([] : va_W))) H → va_D A (wT aT (aS 0) (aH 0) (aE 0) (aX 0) ++ (wS cI cJ aS pr pu ta se qu im su tc sc rc cn so ++ ([] : va_W))) → va_S A s.heap H locs → lv_has ls 5 [(0, .ref aT), (1, .long x1)] → W p l ev ({ frames := 1, cells := 0, slots := 0, locals := 22 } : Room) s m ([.ref aT] : List Value).toArray below meth c H locs 0 0 (MQ below (qL G (ty5 cI cJ cZ cO cA) A (wT aT (aS 0) (aH 0) (aE 0) (aX 0) ++ (wS cI cJ aS pr pu ta se qu im su tc sc rc cn so ++ ([] : va_W))) res) ([.ref aT] : List Value).toArray s 0 0 A) (F0 m 83 ls []) := by
    intro x1 H locs ls e1 hP hD hS hl
    replace e1 := e1.symm
    subst e1
    refine lv_iconst (v := 0) hx hb dX4_digest_83 (by decide) ?_
    refine lv_istore_n (lv' := [(3, .int 0), (0, .ref aT), (1, .long q1)]) hx hb dX4_digest_84 rfl hl (by decide) rfl (fun ls hl => ?_)
    obtain ⟨q7, hq7, h⟩ := bd_s h
    have hX7_0 : ∀ (x7 : Int64) (H : Heap) (locs : List Loc) (ls : Array Slot), x7 = q7 → va_P G vwCl (wT aT (aS 0) (aH 0) (aE 0) (aX 0) ++ (wS cI cJ aS pr pu ta se qu im su tc sc rc cn so ++ ([] : va_W))) H → va_D A (wT aT (aS 0) (aH 0) (aE 0) (aX 0) ++ (wS cI cJ aS pr pu ta se qu im su tc sc rc cn so ++ ([] : va_W))) → va_S A s.heap H locs → lv_has ls 5 [(0, .ref aT), (1, .long x7)] → W p l ev ({ frames := 1, cells := 0, slots := 0, locals := 22 } : Room) s m ([.ref aT] : List Value).toArray below meth c H locs 0 0 (MQ below (qL G (ty5 cI cJ cZ cO cA) A (wT aT (aS 0) (aH 0) (aE 0) (aX 0) ++ (wS cI cJ aS pr pu ta se qu im su tc sc rc cn so ++ ([] : va_W))) res) ([.ref aT] : List Value).toArray s 0 0 A) (F0 m 113 ls []) := by
      intro x7 H locs ls e7 hP hD hS hl
      replace e7 := e7.symm
      subst e7
      refine lv_ldc2 (v := 31) hx hb hown (hts _ kw469) dX4_digest_113 ?_
      refine lv_lload_n hx hb dX4_digest_116 rfl (lv_at hl 1 rfl) ?_
      refine lv_lmul hx hb dX4_digest_117 ?_
      refine lv_aload_n hx hb dX4_digest_118 rfl (lv_at hl 0 rfl) ?_
      refine va_get (D := G) (ci := 4) (v := .ref (aS 0)) (C := RX4) (T := TX4) (N := 4) hx hb hts uX4 hown hK hP 0 rfl rfl 0 (by decide) (hts _ kw165) (fun _ h9 => h9) rfl dX4_digest_119 ?_
      refine va_getN (D := G) (ci := 2) (v := .int rc) (C := RX2) (T := TX2) (N := 12) hx hb hts uX2 hown hK hP 1 rfl rfl 9 (by decide) (hE.nw nk46) (fun _ h9 => h9) rfl dX4_digest_122 ?_
      refine lv_i2l (v := rc.toInt64) hx hb dX4_digest_125 rfl ?_
      refine lv_ladd hx hb dX4_digest_126 ?_
      refine lv_lstore_n (lv' := [(1, .long ((31 * q7) + rc.toInt64)), (0, .ref aT)]) hx hb dX4_digest_127 rfl hl (by decide) rfl (fun ls hl => ?_)
      refine lv_iconst (v := 0) hx hb dX4_digest_128 (by decide) ?_
      refine lv_istore_n (lv' := [(3, .int 0), (1, .long ((31 * q7) + rc.toInt64)), (0, .ref aT)]) hx hb dX4_digest_129 rfl hl (by decide) rfl (fun ls hl => ?_)
      obtain ⟨q10, hq10, h⟩ := bd_s h
      have hX10_0 : ∀ (x10 : Int64) (H : Heap) (locs : List Loc) (ls : Array Slot), x10 = q10 → va_P G vwCl (wT aT (aS 0) (aH 0) (aE 0) (aX 0) ++ (wS cI cJ aS pr pu ta se qu im su tc sc rc cn so ++ ([] : va_W))) H → va_D A (wT aT (aS 0) (aH 0) (aE 0) (aX 0) ++ (wS cI cJ aS pr pu ta se qu im su tc sc rc cn so ++ ([] : va_W))) → va_S A s.heap H locs → lv_has ls 5 [(0, .ref aT), (1, .long x10)] → W p l ev ({ frames := 1, cells := 0, slots := 0, locals := 22 } : Room) s m ([.ref aT] : List Value).toArray below meth c H locs 0 0 (MQ below (qL G (ty5 cI cJ cZ cO cA) A (wT aT (aS 0) (aH 0) (aE 0) (aX 0) ++ (wS cI cJ aS pr pu ta se qu im su tc sc rc cn so ++ ([] : va_W))) res) ([.ref aT] : List Value).toArray s 0 0 A) (F0 m 166 ls []) := by
        intro x10 H locs ls e10 hP hD hS hl
        replace e10 := e10.symm
        subst e10
        refine lv_iconst (v := 0) hx hb dX4_digest_166 (by decide) ?_
        refine lv_istore_n (lv' := [(3, .int 0), (0, .ref aT), (1, .long q10)]) hx hb dX4_digest_167 rfl hl (by decide) rfl (fun ls hl => ?_)
        obtain ⟨q13, hq13, h⟩ := bd_s h
        have hX13_0 : ∀ (x13 : Int64) (H : Heap) (locs : List Loc) (ls : Array Slot), x13 = q13 → va_P G vwCl (wT aT (aS 0) (aH 0) (aE 0) (aX 0) ++ (wS cI cJ aS pr pu ta se qu im su tc sc rc cn so ++ ([] : va_W))) H → va_D A (wT aT (aS 0) (aH 0) (aE 0) (aX 0) ++ (wS cI cJ aS pr pu ta se qu im su tc sc rc cn so ++ ([] : va_W))) → va_S A s.heap H locs → lv_has ls 5 [(0, .ref aT), (1, .long x13)] → W p l ev ({ frames := 1, cells := 0, slots := 0, locals := 22 } : Room) s m ([.ref aT] : List Value).toArray below meth c H locs 0 0 (MQ below (qL G (ty5 cI cJ cZ cO cA) A (wT aT (aS 0) (aH 0) (aE 0) (aX 0) ++ (wS cI cJ aS pr pu ta se qu im su tc sc rc cn so ++ ([] : va_W))) res) ([.ref aT] : List Value).toArray s 0 0 A) (F0 m 197 ls []) := by
          intro x13 H locs ls e13 hP hD hS hl
          replace e13 := e13.symm
          subst e13
          refine lv_iconst (v := 0) hx hb dX4_digest_197 (by decide) ?_
          refine lv_istore_n (lv' := [(3, .int 0), (0, .ref aT), (1, .long q13)]) hx hb dX4_digest_198 rfl hl (by decide) rfl (fun ls hl => ?_)
          obtain ⟨q16, hq16, h⟩ := bd_s h
          have hX16_0 : ∀ (x16 : Int64) (H : Heap) (locs : List Loc) (ls : Array Slot), x16 = q16 → va_P G vwCl (wT aT (aS 0) (aH 0) (aE 0) (aX 0) ++ (wS cI cJ aS pr pu ta se qu im su tc sc rc cn so ++ ([] : va_W))) H → va_D A (wT aT (aS 0) (aH 0) (aE 0) (aX 0) ++ (wS cI cJ aS pr pu ta se qu im su tc sc rc cn so ++ ([] : va_W))) → va_S A s.heap H locs → lv_has ls 5 [(0, .ref aT), (1, .long x16)] → W p l ev ({ frames := 1, cells := 0, slots := 0, locals := 22 } : Room) s m ([.ref aT] : List Value).toArray below meth c H locs 0 0 (MQ below (qL G (ty5 cI cJ cZ cO cA) A (wT aT (aS 0) (aH 0) (aE 0) (aX 0) ++ (wS cI cJ aS pr pu ta se qu im su tc sc rc cn so ++ ([] : va_W))) res) ([.ref aT] : List Value).toArray s 0 0 A) (F0 m 226 ls []) := by
            intro x16 H locs ls e16 hP hD hS hl
            replace e16 := e16.symm
            subst e16
            refine lv_ldc2 (v := 31) hx hb hown (hts _ kw469) dX4_digest_226 ?_
            refine lv_lload_n hx hb dX4_digest_229 rfl (lv_at hl 1 rfl) ?_
            refine lv_lmul hx hb dX4_digest_230 ?_
            refine lv_aload_n hx hb dX4_digest_231 rfl (lv_at hl 0 rfl) ?_
            refine va_get (D := G) (ci := 4) (v := .ref (aS 0)) (C := RX4) (T := TX4) (N := 4) hx hb hts uX4 hown hK hP 0 rfl rfl 0 (by decide) (hts _ kw165) (fun _ h9 => h9) rfl dX4_digest_232 ?_
            refine va_getN (D := G) (ci := 2) (v := .int cn) (C := RX2) (T := TX2) (N := 12) hx hb hts uX2 hown hK hP 1 rfl rfl 10 (by decide) (hE.nw nk48) (fun _ h9 => h9) rfl dX4_digest_235 ?_
            refine lv_i2l (v := cn.toInt64) hx hb dX4_digest_238 rfl ?_
            refine lv_ladd hx hb dX4_digest_239 ?_
            rw [← Option.some.inj h]
            exact krl hx hb hr hlk rfl hP hD hS hK dX4_digest_240
          have hL16 : ∀ (n : Nat) (z16 : Int64 × Int32) (H : Heap) (locs : List Loc) (ls : Array Slot), lp (f_X4_digest_b199 su) n z16 = some q16 → va_P G vwCl (wT aT (aS 0) (aH 0) (aE 0) (aX 0) ++ (wS cI cJ aS pr pu ta se qu im su tc sc rc cn so ++ ([] : va_W))) H → va_D A (wT aT (aS 0) (aH 0) (aE 0) (aX 0) ++ (wS cI cJ aS pr pu ta se qu im su tc sc rc cn so ++ ([] : va_W))) → va_S A s.heap H locs → lv_has ls 5 [(0, .ref aT), (1, .long z16.1), (3, .int z16.2)] → W p l ev ({ frames := 1, cells := 0, slots := 0, locals := 22 } : Room) s m ([.ref aT] : List Value).toArray below meth c H locs 0 0 (MQ below (qL G (ty5 cI cJ cZ cO cA) A (wT aT (aS 0) (aH 0) (aE 0) (aX 0) ++ (wS cI cJ aS pr pu ta se qu im su tc sc rc cn so ++ ([] : va_W))) res) ([.ref aT] : List Value).toArray s 0 0 A) (F0 m 199 ls []) := by
            intro n
            induction n with
            | zero => intro z16 H locs ls h; cases h
            | succ n ih16 =>
              intro z16 H locs ls h hP hD hS hl
              obtain ⟨o16, h, h16⟩ := lp_s h
              unfold f_X4_digest_b199 at h
              refine lv_iload_n hx hb dX4_digest_199 rfl (lv_at hl 2 rfl) ?_
              refine lv_iconst (v := 3) hx hb dX4_digest_200 (by decide) ?_
              refine lv_icmp_ge (tgt := 226) hx hb dX4_digest_201 (by decide) (fun c17 => ?_) (fun c17 => ?_)
              · replace h := (if_pos c17).symm.trans h
                rw [← Option.some.inj h] at h16
                exact hX16_0 z16.1 _ _ _ (lp_x h16) hP hD hS (lv_sub hl [0, 1] rfl)
              · replace h := (if_neg c17).symm.trans h
                refine lv_ldc2 (v := 31) hx hb hown (hts _ kw469) dX4_digest_204 ?_
                refine lv_lload_n hx hb dX4_digest_207 rfl (lv_at hl 1 rfl) ?_
                refine lv_lmul hx hb dX4_digest_208 ?_
                refine lv_aload_n hx hb dX4_digest_209 rfl (lv_at hl 0 rfl) ?_
                refine va_get (D := G) (ci := 4) (v := .ref (aS 0)) (C := RX4) (T := TX4) (N := 4) hx hb hts uX4 hown hK hP 0 rfl rfl 0 (by decide) (hts _ kw165) (fun _ h9 => h9) rfl dX4_digest_210 ?_
                refine va_getN (D := G) (ci := 2) (v := .ref (aS 7)) (C := RX2) (T := TX2) (N := 12) hx hb hts uX2 hown hK hP 1 rfl rfl 6 (by decide) (hE.nw nk39) (fun _ h9 => h9) rfl dX4_digest_213 ?_
                refine lv_iload_n hx hb dX4_digest_216 rfl (lv_at hl 2 rfl) ?_
                obtain ⟨g18, h⟩ := gd_s h
                refine va_lald hx hb hK hP 8 1 rfl rfl (ib_in g18) dX4_digest_217 ?_
                refine lv_ladd hx hb dX4_digest_218 ?_
                refine lv_lstore_n (lv' := [(1, .long ((31 * z16.1) + (su z16.2.toNatClampNeg))), (0, .ref aT), (3, .int z16.2)]) hx hb dX4_digest_219 rfl hl (by decide) rfl (fun ls hl => ?_)
                refine lv_iinc (v := (z16.2 + 1)) (lv' := [(3, .int (z16.2 + 1)), (1, .long ((31 * z16.1) + (su z16.2.toNatClampNeg))), (0, .ref aT)]) hx hb dX4_digest_220 hl (k := 2) rfl rfl (by decide) rfl (fun ls hl => ?_)
                refine lv_goto (tgt := 199) hx hb dX4_digest_223 (by decide) ?_
                rw [← Option.some.inj h] at h16
                exact ih16 (((31 * z16.1) + (su z16.2.toNatClampNeg)), (z16.2 + 1)) _ _ _ (lp_b h16) hP hD hS (lv_sub hl [2, 1, 0] rfl)
          exact hL16 _ (q13, 0) _ _ _ hq16 hP hD hS (lv_sub hl [1, 2, 0] rfl)
        have hL13 : ∀ (n : Nat) (z13 : Int64 × Int32) (H : Heap) (locs : List Loc) (ls : Array Slot), lp (f_X4_digest_b168 im) n z13 = some q13 → va_P G vwCl (wT aT (aS 0) (aH 0) (aE 0) (aX 0) ++ (wS cI cJ aS pr pu ta se qu im su tc sc rc cn so ++ ([] : va_W))) H → va_D A (wT aT (aS 0) (aH 0) (aE 0) (aX 0) ++ (wS cI cJ aS pr pu ta se qu im su tc sc rc cn so ++ ([] : va_W))) → va_S A s.heap H locs → lv_has ls 5 [(0, .ref aT), (1, .long z13.1), (3, .int z13.2)] → W p l ev ({ frames := 1, cells := 0, slots := 0, locals := 22 } : Room) s m ([.ref aT] : List Value).toArray below meth c H locs 0 0 (MQ below (qL G (ty5 cI cJ cZ cO cA) A (wT aT (aS 0) (aH 0) (aE 0) (aX 0) ++ (wS cI cJ aS pr pu ta se qu im su tc sc rc cn so ++ ([] : va_W))) res) ([.ref aT] : List Value).toArray s 0 0 A) (F0 m 168 ls []) := by
          intro n
          induction n with
          | zero => intro z13 H locs ls h; cases h
          | succ n ih13 =>
            intro z13 H locs ls h hP hD hS hl
            obtain ⟨o13, h, h13⟩ := lp_s h
            unfold f_X4_digest_b168 at h
            refine lv_iload_n hx hb dX4_digest_168 rfl (lv_at hl 2 rfl) ?_
            refine lv_bipush (v := 9) hx hb dX4_digest_169 (by decide) ?_
            refine lv_icmp_ge (tgt := 197) hx hb dX4_digest_171 (by decide) (fun c14 => ?_) (fun c14 => ?_)
            · replace h := (if_pos c14).symm.trans h
              rw [← Option.some.inj h] at h13
              exact hX13_0 z13.1 _ _ _ (lp_x h13) hP hD hS (lv_sub hl [0, 1] rfl)
            · replace h := (if_neg c14).symm.trans h
              refine lv_ldc2 (v := 31) hx hb hown (hts _ kw469) dX4_digest_174 ?_
              refine lv_lload_n hx hb dX4_digest_177 rfl (lv_at hl 1 rfl) ?_
              refine lv_lmul hx hb dX4_digest_178 ?_
              refine lv_aload_n hx hb dX4_digest_179 rfl (lv_at hl 0 rfl) ?_
              refine va_get (D := G) (ci := 4) (v := .ref (aS 0)) (C := RX4) (T := TX4) (N := 4) hx hb hts uX4 hown hK hP 0 rfl rfl 0 (by decide) (hts _ kw165) (fun _ h9 => h9) rfl dX4_digest_180 ?_
              refine va_getN (D := G) (ci := 2) (v := .ref (aS 6)) (C := RX2) (T := TX2) (N := 12) hx hb hts uX2 hown hK hP 1 rfl rfl 5 (by decide) (hE.nw nk37) (fun _ h9 => h9) rfl dX4_digest_183 ?_
              refine lv_iload_n hx hb dX4_digest_186 rfl (lv_at hl 2 rfl) ?_
              obtain ⟨g15, h⟩ := gd_s h
              refine va_iald hx hb hK hP 7 0 rfl rfl (ib_in g15) dX4_digest_187 ?_
              refine lv_i2l (v := (im z13.2.toNatClampNeg).toInt64) hx hb dX4_digest_188 rfl ?_
              refine lv_ladd hx hb dX4_digest_189 ?_
              refine lv_lstore_n (lv' := [(1, .long ((31 * z13.1) + ((im z13.2.toNatClampNeg).toInt64))), (0, .ref aT), (3, .int z13.2)]) hx hb dX4_digest_190 rfl hl (by decide) rfl (fun ls hl => ?_)
              refine lv_iinc (v := (z13.2 + 1)) (lv' := [(3, .int (z13.2 + 1)), (1, .long ((31 * z13.1) + ((im z13.2.toNatClampNeg).toInt64))), (0, .ref aT)]) hx hb dX4_digest_191 hl (k := 2) rfl rfl (by decide) rfl (fun ls hl => ?_)
              refine lv_goto (tgt := 168) hx hb dX4_digest_194 (by decide) ?_
              rw [← Option.some.inj h] at h13
              exact ih13 (((31 * z13.1) + ((im z13.2.toNatClampNeg).toInt64)), (z13.2 + 1)) _ _ _ (lp_b h13) hP hD hS (lv_sub hl [2, 1, 0] rfl)
        exact hL13 _ (q10, 0) _ _ _ hq13 hP hD hS (lv_sub hl [1, 2, 0] rfl)
      have hL10 : ∀ (n : Nat) (z10 : Int64 × Int32) (H : Heap) (locs : List Loc) (ls : Array Slot), lp (f_X4_digest_b130 qu rc) n z10 = some q10 → va_P G vwCl (wT aT (aS 0) (aH 0) (aE 0) (aX 0) ++ (wS cI cJ aS pr pu ta se qu im su tc sc rc cn so ++ ([] : va_W))) H → va_D A (wT aT (aS 0) (aH 0) (aE 0) (aX 0) ++ (wS cI cJ aS pr pu ta se qu im su tc sc rc cn so ++ ([] : va_W))) → va_S A s.heap H locs → lv_has ls 5 [(0, .ref aT), (1, .long z10.1), (3, .int z10.2)] → W p l ev ({ frames := 1, cells := 0, slots := 0, locals := 22 } : Room) s m ([.ref aT] : List Value).toArray below meth c H locs 0 0 (MQ below (qL G (ty5 cI cJ cZ cO cA) A (wT aT (aS 0) (aH 0) (aE 0) (aX 0) ++ (wS cI cJ aS pr pu ta se qu im su tc sc rc cn so ++ ([] : va_W))) res) ([.ref aT] : List Value).toArray s 0 0 A) (F0 m 130 ls []) := by
        intro n
        induction n with
        | zero => intro z10 H locs ls h; cases h
        | succ n ih10 =>
          intro z10 H locs ls h hP hD hS hl
          obtain ⟨o10, h, h10⟩ := lp_s h
          unfold f_X4_digest_b130 at h
          refine lv_iload_n hx hb dX4_digest_130 rfl (lv_at hl 2 rfl) ?_
          refine lv_aload_n hx hb dX4_digest_131 rfl (lv_at hl 0 rfl) ?_
          refine va_get (D := G) (ci := 4) (v := .ref (aS 0)) (C := RX4) (T := TX4) (N := 4) hx hb hts uX4 hown hK hP 0 rfl rfl 0 (by decide) (hts _ kw165) (fun _ h9 => h9) rfl dX4_digest_132 ?_
          refine va_getN (D := G) (ci := 2) (v := .int rc) (C := RX2) (T := TX2) (N := 12) hx hb hts uX2 hown hK hP 1 rfl rfl 9 (by decide) (hE.nw nk46) (fun _ h9 => h9) rfl dX4_digest_135 ?_
          refine lv_iconst (v := 3) hx hb dX4_digest_138 (by decide) ?_
          refine lv_imul hx hb dX4_digest_139 ?_
          refine lv_icmp_ge (tgt := 166) hx hb dX4_digest_140 (by decide) (fun c11 => ?_) (fun c11 => ?_)
          · replace h := (if_pos c11).symm.trans h
            rw [← Option.some.inj h] at h10
            exact hX10_0 z10.1 _ _ _ (lp_x h10) hP hD hS (lv_sub hl [0, 1] rfl)
          · replace h := (if_neg c11).symm.trans h
            refine lv_ldc2 (v := 31) hx hb hown (hts _ kw469) dX4_digest_143 ?_
            refine lv_lload_n hx hb dX4_digest_146 rfl (lv_at hl 1 rfl) ?_
            refine lv_lmul hx hb dX4_digest_147 ?_
            refine lv_aload_n hx hb dX4_digest_148 rfl (lv_at hl 0 rfl) ?_
            refine va_get (D := G) (ci := 4) (v := .ref (aS 0)) (C := RX4) (T := TX4) (N := 4) hx hb hts uX4 hown hK hP 0 rfl rfl 0 (by decide) (hts _ kw165) (fun _ h9 => h9) rfl dX4_digest_149 ?_
            refine va_getN (D := G) (ci := 2) (v := .ref (aS 5)) (C := RX2) (T := TX2) (N := 12) hx hb hts uX2 hown hK hP 1 rfl rfl 4 (by decide) (hE.nw nk35) (fun _ h9 => h9) rfl dX4_digest_152 ?_
            refine lv_iload_n hx hb dX4_digest_155 rfl (lv_at hl 2 rfl) ?_
            obtain ⟨g12, h⟩ := gd_s h
            refine va_iald hx hb hK hP 6 0 rfl rfl (ib_in g12) dX4_digest_156 ?_
            refine lv_i2l (v := (qu z10.2.toNatClampNeg).toInt64) hx hb dX4_digest_157 rfl ?_
            refine lv_ladd hx hb dX4_digest_158 ?_
            refine lv_lstore_n (lv' := [(1, .long ((31 * z10.1) + ((qu z10.2.toNatClampNeg).toInt64))), (0, .ref aT), (3, .int z10.2)]) hx hb dX4_digest_159 rfl hl (by decide) rfl (fun ls hl => ?_)
            refine lv_iinc (v := (z10.2 + 1)) (lv' := [(3, .int (z10.2 + 1)), (1, .long ((31 * z10.1) + ((qu z10.2.toNatClampNeg).toInt64))), (0, .ref aT)]) hx hb dX4_digest_160 hl (k := 2) rfl rfl (by decide) rfl (fun ls hl => ?_)
            refine lv_goto (tgt := 130) hx hb dX4_digest_163 (by decide) ?_
            rw [← Option.some.inj h] at h10
            exact ih10 (((31 * z10.1) + ((qu z10.2.toNatClampNeg).toInt64)), (z10.2 + 1)) _ _ _ (lp_b h10) hP hD hS (lv_sub hl [2, 1, 0] rfl)
      exact hL10 _ (((31 * q7) + rc.toInt64), 0) _ _ _ hq10 hP hD hS (lv_sub hl [2, 1, 0] rfl)
    have hL7 : ∀ (n : Nat) (z7 : Int64 × Int32) (H : Heap) (locs : List Loc) (ls : Array Slot), lp (f_X4_digest_b85 ta) n z7 = some q7 → va_P G vwCl (wT aT (aS 0) (aH 0) (aE 0) (aX 0) ++ (wS cI cJ aS pr pu ta se qu im su tc sc rc cn so ++ ([] : va_W))) H → va_D A (wT aT (aS 0) (aH 0) (aE 0) (aX 0) ++ (wS cI cJ aS pr pu ta se qu im su tc sc rc cn so ++ ([] : va_W))) → va_S A s.heap H locs → lv_has ls 5 [(0, .ref aT), (1, .long z7.1), (3, .int z7.2)] → W p l ev ({ frames := 1, cells := 0, slots := 0, locals := 22 } : Room) s m ([.ref aT] : List Value).toArray below meth c H locs 0 0 (MQ below (qL G (ty5 cI cJ cZ cO cA) A (wT aT (aS 0) (aH 0) (aE 0) (aX 0) ++ (wS cI cJ aS pr pu ta se qu im su tc sc rc cn so ++ ([] : va_W))) res) ([.ref aT] : List Value).toArray s 0 0 A) (F0 m 85 ls []) := by
      intro n
      induction n with
      | zero => intro z7 H locs ls h; cases h
      | succ n ih7 =>
        intro z7 H locs ls h hP hD hS hl
        obtain ⟨o7, h, h7⟩ := lp_s h
        unfold f_X4_digest_b85 at h
        refine lv_iload_n hx hb dX4_digest_85 rfl (lv_at hl 2 rfl) ?_
        refine lv_iconst (v := 2) hx hb dX4_digest_86 (by decide) ?_
        refine lv_icmp_ge (tgt := 113) hx hb dX4_digest_87 (by decide) (fun c8 => ?_) (fun c8 => ?_)
        · replace h := (if_pos c8).symm.trans h
          rw [← Option.some.inj h] at h7
          exact hX7_0 z7.1 _ _ _ (lp_x h7) hP hD hS (lv_sub hl [0, 1] rfl)
        · replace h := (if_neg c8).symm.trans h
          refine lv_ldc2 (v := 31) hx hb hown (hts _ kw469) dX4_digest_90 ?_
          refine lv_lload_n hx hb dX4_digest_93 rfl (lv_at hl 1 rfl) ?_
          refine lv_lmul hx hb dX4_digest_94 ?_
          refine lv_aload_n hx hb dX4_digest_95 rfl (lv_at hl 0 rfl) ?_
          refine va_get (D := G) (ci := 4) (v := .ref (aS 0)) (C := RX4) (T := TX4) (N := 4) hx hb hts uX4 hown hK hP 0 rfl rfl 0 (by decide) (hts _ kw165) (fun _ h9 => h9) rfl dX4_digest_96 ?_
          refine va_getN (D := G) (ci := 2) (v := .ref (aS 3)) (C := RX2) (T := TX2) (N := 12) hx hb hts uX2 hown hK hP 1 rfl rfl 2 (by decide) (hE.nw nk32) (fun _ h9 => h9) rfl dX4_digest_99 ?_
          refine lv_iload_n hx hb dX4_digest_102 rfl (lv_at hl 2 rfl) ?_
          obtain ⟨g9, h⟩ := gd_s h
          refine va_iald hx hb hK hP 4 0 rfl rfl (ib_in g9) dX4_digest_103 ?_
          refine lv_i2l (v := (ta z7.2.toNatClampNeg).toInt64) hx hb dX4_digest_104 rfl ?_
          refine lv_ladd hx hb dX4_digest_105 ?_
          refine lv_lstore_n (lv' := [(1, .long ((31 * z7.1) + ((ta z7.2.toNatClampNeg).toInt64))), (0, .ref aT), (3, .int z7.2)]) hx hb dX4_digest_106 rfl hl (by decide) rfl (fun ls hl => ?_)
          refine lv_iinc (v := (z7.2 + 1)) (lv' := [(3, .int (z7.2 + 1)), (1, .long ((31 * z7.1) + ((ta z7.2.toNatClampNeg).toInt64))), (0, .ref aT)]) hx hb dX4_digest_107 hl (k := 2) rfl rfl (by decide) rfl (fun ls hl => ?_)
          refine lv_goto (tgt := 85) hx hb dX4_digest_110 (by decide) ?_
          rw [← Option.some.inj h] at h7
          exact ih7 (((31 * z7.1) + ((ta z7.2.toNatClampNeg).toInt64)), (z7.2 + 1)) _ _ _ (lp_b h7) hP hD hS (lv_sub hl [2, 1, 0] rfl)
    exact hL7 _ (q1, 0) _ _ _ hq7 hP hD hS (lv_sub hl [1, 2, 0] rfl)
  have hL1 : ∀ (n : Nat) (z1 : Int64 × Int32) (H : Heap) (locs : List Loc) (ls : Array Slot), lp (f_X4_digest_b15 pr pu tc) n z1 = some q1 → va_P G vwCl (wT aT (aS 0) (aH 0) (aE 0) (aX 0) ++ (wS cI cJ aS pr pu ta se qu im su tc sc rc cn so ++ ([] : va_W))) H → va_D A (wT aT (aS 0) (aH 0) (aE 0) (aX 0) ++ (wS cI cJ aS pr pu ta se qu im su tc sc rc cn so ++ ([] : va_W))) → va_S A s.heap H locs → lv_has ls 5 [(0, .ref aT), (1, .long z1.1), (3, .int z1.2)] → W p l ev ({ frames := 1, cells := 0, slots := 0, locals := 22 } : Room) s m ([.ref aT] : List Value).toArray below meth c H locs 0 0 (MQ below (qL G (ty5 cI cJ cZ cO cA) A (wT aT (aS 0) (aH 0) (aE 0) (aX 0) ++ (wS cI cJ aS pr pu ta se qu im su tc sc rc cn so ++ ([] : va_W))) res) ([.ref aT] : List Value).toArray s 0 0 A) (F0 m 15 ls []) := by
    intro n
    induction n with
    | zero => intro z1 H locs ls h; cases h
    | succ n ih1 =>
      intro z1 H locs ls h hP hD hS hl
      obtain ⟨o1, h, h1⟩ := lp_s h
      unfold f_X4_digest_b15 at h
      refine lv_iload_n hx hb dX4_digest_15 rfl (lv_at hl 2 rfl) ?_
      refine lv_aload_n hx hb dX4_digest_16 rfl (lv_at hl 0 rfl) ?_
      refine va_get (D := G) (ci := 4) (v := .ref (aS 0)) (C := RX4) (T := TX4) (N := 4) hx hb hts uX4 hown hK hP 0 rfl rfl 0 (by decide) (hts _ kw165) (fun _ h9 => h9) rfl dX4_digest_17 ?_
      refine va_getN (D := G) (ci := 2) (v := .int tc) (C := RX2) (T := TX2) (N := 12) hx hb hts uX2 hown hK hP 1 rfl rfl 7 (by decide) (hE.nw nk41) (fun _ h9 => h9) rfl dX4_digest_20 ?_
      refine lv_icmp_ge (tgt := 83) hx hb dX4_digest_23 (by decide) (fun c2 => ?_) (fun c2 => ?_)
      · replace h := (if_pos c2).symm.trans h
        rw [← Option.some.inj h] at h1
        exact hX1_0 z1.1 _ _ _ (lp_x h1) hP hD hS (lv_sub hl [0, 1] rfl)
      · replace h := (if_neg c2).symm.trans h
        refine lv_iconst (v := 0) hx hb dX4_digest_26 (by decide) ?_
        refine lv_istore (lv' := [(4, .int 0), (0, .ref aT), (1, .long z1.1), (3, .int z1.2)]) hx hb dX4_digest_27 hl (by decide) rfl (fun ls hl => ?_)
        obtain ⟨q3, hq3, h⟩ := bd_s h
        have hX3_0 : ∀ (x3 : Int64) (H : Heap) (locs : List Loc) (ls : Array Slot), x3 = q3 → va_P G vwCl (wT aT (aS 0) (aH 0) (aE 0) (aX 0) ++ (wS cI cJ aS pr pu ta se qu im su tc sc rc cn so ++ ([] : va_W))) H → va_D A (wT aT (aS 0) (aH 0) (aE 0) (aX 0) ++ (wS cI cJ aS pr pu ta se qu im su tc sc rc cn so ++ ([] : va_W))) → va_S A s.heap H locs → lv_has ls 5 [(0, .ref aT), (1, .long x3), (3, .int z1.2)] → W p l ev ({ frames := 1, cells := 0, slots := 0, locals := 22 } : Room) s m ([.ref aT] : List Value).toArray below meth c H locs 0 0 (MQ below (qL G (ty5 cI cJ cZ cO cA) A (wT aT (aS 0) (aH 0) (aE 0) (aX 0) ++ (wS cI cJ aS pr pu ta se qu im su tc sc rc cn so ++ ([] : va_W))) res) ([.ref aT] : List Value).toArray s 0 0 A) (F0 m 60 ls []) := by
          intro x3 H locs ls e3 hP hD hS hl
          replace e3 := e3.symm
          subst e3
          refine lv_ldc2 (v := 31) hx hb hown (hts _ kw469) dX4_digest_60 ?_
          refine lv_lload_n hx hb dX4_digest_63 rfl (lv_at hl 1 rfl) ?_
          refine lv_lmul hx hb dX4_digest_64 ?_
          refine lv_aload_n hx hb dX4_digest_65 rfl (lv_at hl 0 rfl) ?_
          refine va_get (D := G) (ci := 4) (v := .ref (aS 0)) (C := RX4) (T := TX4) (N := 4) hx hb hts uX4 hown hK hP 0 rfl rfl 0 (by decide) (hts _ kw165) (fun _ h9 => h9) rfl dX4_digest_66 ?_
          refine va_getN (D := G) (ci := 2) (v := .ref (aS 2)) (C := RX2) (T := TX2) (N := 12) hx hb hts uX2 hown hK hP 1 rfl rfl 1 (by decide) (hE.nw nk30) (fun _ h9 => h9) rfl dX4_digest_69 ?_
          refine lv_iload_n hx hb dX4_digest_72 rfl (lv_at hl 2 rfl) ?_
          obtain ⟨g6, h⟩ := gd_s h
          refine va_iald hx hb hK hP 3 0 rfl rfl (ib_in g6) dX4_digest_73 ?_
          refine lv_i2l (v := (pu z1.2.toNatClampNeg).toInt64) hx hb dX4_digest_74 rfl ?_
          refine lv_ladd hx hb dX4_digest_75 ?_
          refine lv_lstore_n (lv' := [(1, .long ((31 * q3) + ((pu z1.2.toNatClampNeg).toInt64))), (0, .ref aT), (3, .int z1.2)]) hx hb dX4_digest_76 rfl hl (by decide) rfl (fun ls hl => ?_)
          refine lv_iinc (v := (z1.2 + 1)) (lv' := [(3, .int (z1.2 + 1)), (1, .long ((31 * q3) + ((pu z1.2.toNatClampNeg).toInt64))), (0, .ref aT)]) hx hb dX4_digest_77 hl (k := 2) rfl rfl (by decide) rfl (fun ls hl => ?_)
          refine lv_goto (tgt := 15) hx hb dX4_digest_80 (by decide) ?_
          rw [← Option.some.inj h] at h1
          exact ih1 (((31 * q3) + ((pu z1.2.toNatClampNeg).toInt64)), (z1.2 + 1)) _ _ _ (lp_b h1) hP hD hS (lv_sub hl [2, 1, 0] rfl)
        have hL3 : ∀ (n : Nat) (z3 : Int64 × Int32) (H : Heap) (locs : List Loc) (ls : Array Slot), lp (f_X4_digest_b29 pr z1.2) n z3 = some q3 → va_P G vwCl (wT aT (aS 0) (aH 0) (aE 0) (aX 0) ++ (wS cI cJ aS pr pu ta se qu im su tc sc rc cn so ++ ([] : va_W))) H → va_D A (wT aT (aS 0) (aH 0) (aE 0) (aX 0) ++ (wS cI cJ aS pr pu ta se qu im su tc sc rc cn so ++ ([] : va_W))) → va_S A s.heap H locs → lv_has ls 5 [(0, .ref aT), (1, .long z3.1), (3, .int z1.2), (4, .int z3.2)] → W p l ev ({ frames := 1, cells := 0, slots := 0, locals := 22 } : Room) s m ([.ref aT] : List Value).toArray below meth c H locs 0 0 (MQ below (qL G (ty5 cI cJ cZ cO cA) A (wT aT (aS 0) (aH 0) (aE 0) (aX 0) ++ (wS cI cJ aS pr pu ta se qu im su tc sc rc cn so ++ ([] : va_W))) res) ([.ref aT] : List Value).toArray s 0 0 A) (F0 m 29 ls []) := by
          intro n
          induction n with
          | zero => intro z3 H locs ls h; cases h
          | succ n ih3 =>
            intro z3 H locs ls h hP hD hS hl
            obtain ⟨o3, h, h3⟩ := lp_s h
            unfold f_X4_digest_b29 at h
            refine lv_iload hx hb dX4_digest_29 (lv_at hl 3 rfl) ?_
            refine lv_bipush (v := 7) hx hb dX4_digest_31 (by decide) ?_
            refine lv_icmp_ge (tgt := 60) hx hb dX4_digest_33 (by decide) (fun c4 => ?_) (fun c4 => ?_)
            · replace h := (if_pos c4).symm.trans h
              rw [← Option.some.inj h] at h3
              exact hX3_0 z3.1 _ _ _ (lp_x h3) hP hD hS (lv_sub hl [0, 1, 2] rfl)
            · replace h := (if_neg c4).symm.trans h
              refine lv_ldc2 (v := 31) hx hb hown (hts _ kw469) dX4_digest_36 ?_
              refine lv_lload_n hx hb dX4_digest_39 rfl (lv_at hl 1 rfl) ?_
              refine lv_lmul hx hb dX4_digest_40 ?_
              refine lv_aload_n hx hb dX4_digest_41 rfl (lv_at hl 0 rfl) ?_
              refine va_get (D := G) (ci := 4) (v := .ref (aS 0)) (C := RX4) (T := TX4) (N := 4) hx hb hts uX4 hown hK hP 0 rfl rfl 0 (by decide) (hts _ kw165) (fun _ h9 => h9) rfl dX4_digest_42 ?_
              refine lv_iload_n hx hb dX4_digest_45 rfl (lv_at hl 2 rfl) ?_
              refine lv_iload hx hb dX4_digest_46 (lv_at hl 3 rfl) ?_
              obtain ⟨q5, hq5, h⟩ := bd_s h
              refine kVi (n := 2) (C := RX2) (ws' := wT aT (aS 0) (aH 0) (aE 0) (aX 0) ++ (wS cI cJ aS pr pu ta se qu im su tc sc rc cn so ++ ([] : va_W))) (As := [.int z1.2, .int z3.2]) (rest := [.long (31 * z3.1)]) hx hb hml hown hts (c_X2_property l G cI cJ cZ cO cA e aS _ pr pu ta se qu im su tc sc rc cn so z1.2 z3.2 hq5) (tb_V kw338 kw238 kw239 kw2 kw240) rfl rfl (by decide +kernel) ⟨Nat.le_of_ble_eq_true rfl, Nat.le_of_ble_eq_true rfl⟩ hK hP hD hS hA hE 1 rfl rfl [1, 2, 3, 4, 5, 6, 7, 8] [0] rfl rfl rfl 9 ⟨rfl, rfl⟩ (by decide +kernel) (by decide +kernel) rfl rfl hl.1 (Nat.le_of_ble_eq_true rfl) ⟨Nat.zero_le _, Nat.zero_le _⟩ dX4_digest_48 (fun H locs hP hD hS => ?_)
              refine lv_i2l (v := q5.toInt64) hx hb dX4_digest_51 rfl ?_
              refine lv_ladd hx hb dX4_digest_52 ?_
              refine lv_lstore_n (lv' := [(1, .long ((31 * z3.1) + q5.toInt64)), (0, .ref aT), (3, .int z1.2), (4, .int z3.2)]) hx hb dX4_digest_53 rfl hl (by decide) rfl (fun ls hl => ?_)
              refine lv_iinc (v := (z3.2 + 1)) (lv' := [(4, .int (z3.2 + 1)), (1, .long ((31 * z3.1) + q5.toInt64)), (0, .ref aT), (3, .int z1.2)]) hx hb dX4_digest_54 hl (k := 3) rfl rfl (by decide) rfl (fun ls hl => ?_)
              refine lv_goto (tgt := 29) hx hb dX4_digest_57 (by decide) ?_
              rw [← Option.some.inj h] at h3
              exact ih3 (((31 * z3.1) + q5.toInt64), (z3.2 + 1)) _ _ _ (lp_b h3) hP hD hS (lv_sub hl [2, 1, 3, 0] rfl)
        exact hL3 _ (z1.1, 0) _ _ _ hq3 hP hD hS (lv_sub hl [1, 2, 3, 0] rfl)
  exact hL1 _ ((527 + tc.toInt64), 0) _ _ _ hq1 hP hD hS (lv_sub hl [2, 1, 0] rfl)

/-! J7_fill_53178 -/
def f_J7_fill_53178_b5 (v1 : Int32) (v3 : Int32) (z1 : (Nat → Int32) × Int32) : Option (((Nat → Int32) × Int32) ⊕ ((Nat → Int32))) :=
  if v3 ≤ z1.2 then (some (Sum.inr z1.1)) else (gd (ib z1.2 2) (some (Sum.inl ((upd z1.1 z1.2.toNatClampNeg v1), (z1.2 + 1)))))
def f_J7_fill_53178 (ari : Nat → Int32) (p1 : Int32) : Option ((Nat → Int32)) :=
  (lp (f_J7_fill_53178_b5 p1 2) 1000 (ari, 0)).bind (fun q1 => some q1)

set_option maxHeartbeats 4000000 in
set_option maxRecDepth 100000 in
theorem c_J7_fill_53178 (l : Launch) (G : va_G) (cI cJ cZ cO cA : ClassId) (e : Nat × Nat) (aa : Nat) (sz : Nat) (ari : Nat → Int32) (p1 : Int32) {res : (Nat → Int32)} (hf : f_J7_fill_53178 ari p1 = some res) : MetV l yJ7_fill_53178 cJ7_fill_53178 4 ({ frames := 0, cells := 0, slots := 0, locals := 0 } : Room) [.ref aa, .int p1] G (ty5 cI cJ cZ cO cA) e (wIa cI aa 2 ari ++ ([] : va_W)) (wIa cI aa 2 res ++ ([] : va_W)) sz := by
  refine g_body (QQ := fun A => (qV G (ty5 cI cJ cZ cO cA) A (wIa cI aa 2 res ++ ([] : va_W)))) (own := RJ7) (by decide) rfl (Nat.le_of_ble_eq_true rfl) ?_
  intro p ev s m below meth c A ls hx hb hr hml hown hts hlk hA hP hD hS hK hE hl
  have hl : lv_has ls 4 [(0, .ref aa), (1, .int p1)] := hl
  show W p l ev ({ frames := 0, cells := 0, slots := 0, locals := 0 } : Room) s m ([.ref aa, .int p1] : List Value).toArray below meth c s.heap [] 0 0 (MQ below (qV G (ty5 cI cJ cZ cO cA) A (wIa cI aa 2 res ++ ([] : va_W))) ([.ref aa, .int p1] : List Value).toArray s 0 0 A) (F0 m 0 ls [])
  have h := hf
  unfold f_J7_fill_53178 at h
  refine lv_iconst (v := 0) hx hb dJ7_fill_53178_0 (by decide) ?_
  refine lv_istore_n (lv' := [(2, .int 0), (0, .ref aa), (1, .int p1)]) hx hb dJ7_fill_53178_1 rfl hl (by decide) rfl (fun ls hl => ?_)
  refine lv_aload_n hx hb dJ7_fill_53178_2 rfl (lv_at hl 1 rfl) ?_
  refine va_alen (v := 2) hx hb hK hP 0 0 rfl rfl rfl dJ7_fill_53178_3 ?_
  refine lv_istore_n (lv' := [(3, .int 2), (2, .int 0), (0, .ref aa), (1, .int p1)]) hx hb dJ7_fill_53178_4 rfl hl (by decide) rfl (fun ls hl => ?_)
  obtain ⟨q1, hq1, h⟩ := bd_s h
  have hX1_0 : ∀ (x1 : (Nat → Int32)) (H : Heap) (locs : List Loc) (ls : Array Slot), x1 = q1 → va_P G vwCl (wIa cI aa 2 x1 ++ ([] : va_W)) H → va_D A (wIa cI aa 2 x1 ++ ([] : va_W)) → va_S A s.heap H locs → lv_has ls 4 [] → W p l ev ({ frames := 0, cells := 0, slots := 0, locals := 0 } : Room) s m ([.ref aa, .int p1] : List Value).toArray below meth c H locs 0 0 (MQ below (qV G (ty5 cI cJ cZ cO cA) A (wIa cI aa 2 res ++ ([] : va_W))) ([.ref aa, .int p1] : List Value).toArray s 0 0 A) (F0 m 20 ls []) := by
    intro x1 H locs ls e1 hP hD hS hl
    replace e1 := e1.symm
    subst e1
    rw [← Option.some.inj h]
    exact krv hx hb hr hlk hP hD hS hK dJ7_fill_53178_20
  have hL1 : ∀ (n : Nat) (z1 : (Nat → Int32) × Int32) (H : Heap) (locs : List Loc) (ls : Array Slot), lp (f_J7_fill_53178_b5 p1 2) n z1 = some q1 → va_P G vwCl (wIa cI aa 2 z1.1 ++ ([] : va_W)) H → va_D A (wIa cI aa 2 z1.1 ++ ([] : va_W)) → va_S A s.heap H locs → lv_has ls 4 [(0, .ref aa), (1, .int p1), (2, .int z1.2), (3, .int 2)] → W p l ev ({ frames := 0, cells := 0, slots := 0, locals := 0 } : Room) s m ([.ref aa, .int p1] : List Value).toArray below meth c H locs 0 0 (MQ below (qV G (ty5 cI cJ cZ cO cA) A (wIa cI aa 2 res ++ ([] : va_W))) ([.ref aa, .int p1] : List Value).toArray s 0 0 A) (F0 m 5 ls []) := by
    intro n
    induction n with
    | zero => intro z1 H locs ls h; cases h
    | succ n ih1 =>
      intro z1 H locs ls h hP hD hS hl
      obtain ⟨o1, h, h1⟩ := lp_s h
      unfold f_J7_fill_53178_b5 at h
      refine lv_iload_n hx hb dJ7_fill_53178_5 rfl (lv_at hl 2 rfl) ?_
      refine lv_iload_n hx hb dJ7_fill_53178_6 rfl (lv_at hl 3 rfl) ?_
      refine lv_icmp_ge (tgt := 20) hx hb dJ7_fill_53178_7 (by decide) (fun c2 => ?_) (fun c2 => ?_)
      · replace h := (if_pos c2).symm.trans h
        rw [← Option.some.inj h] at h1
        exact hX1_0 z1.1 _ _ _ (lp_x h1) hP hD hS (lv_sub hl [] rfl)
      · replace h := (if_neg c2).symm.trans h
        refine lv_aload_n hx hb dJ7_fill_53178_10 rfl (lv_at hl 0 rfl) ?_
        refine lv_iload_n hx hb dJ7_fill_53178_11 rfl (lv_at hl 2 rfl) ?_
        refine lv_iload_n hx hb dJ7_fill_53178_12 rfl (lv_at hl 1 rfl) ?_
        obtain ⟨g3, h⟩ := gd_s h
        refine va_iast hx hb hK hP hD hS 0 0 rfl rfl (ib_in g3) dJ7_fill_53178_13 (fun H locs hP hD hS => ?_)
        have hP : va_P G vwCl (wIa cI aa 2 (upd z1.1 z1.2.toNatClampNeg p1) ++ ([] : va_W)) H := hP
        have hD : va_D A (wIa cI aa 2 (upd z1.1 z1.2.toNatClampNeg p1) ++ ([] : va_W)) := hD
        refine lv_iinc (v := (z1.2 + 1)) (lv' := [(2, .int (z1.2 + 1)), (0, .ref aa), (1, .int p1), (3, .int 2)]) hx hb dJ7_fill_53178_14 hl (k := 2) rfl rfl (by decide) rfl (fun ls hl => ?_)
        refine lv_goto (tgt := 5) hx hb dJ7_fill_53178_17 (by decide) ?_
        rw [← Option.some.inj h] at h1
        exact ih1 ((upd z1.1 z1.2.toNatClampNeg p1), (z1.2 + 1)) _ _ _ (lp_b h1) hP hD hS (lv_sub hl [1, 2, 0, 3] rfl)
  exact hL1 _ (ari, 0) _ _ _ hq1 hP hD hS (lv_sub hl [2, 3, 1, 0] rfl)

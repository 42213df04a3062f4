/-! L_low -/
def f_L_low (p0 : Int32) (p1 : Int32) : Option (Int32) :=
  gd (nz p1) (some ((p0 &&& 2147483647) - (p0 &&& 2147483647) / p1 * p1))

set_option maxHeartbeats 4000000 in
set_option maxRecDepth 100000 in
theorem c_L_low (l : Launch) (G : va_G) (cI cJ cZ cO cA : ClassId) (e : Nat × Nat) (sz : Nat) (p0 : Int32) (p1 : Int32) {res : Int32} (hf : f_L_low p0 p1 = some res) : MetI l yL_low cL_low 2 .int ({ frames := 0, cells := 0, slots := 0, locals := 0 } : Room) [.int p0, .int p1] G (ty5 cI cJ cZ cO cA) e (([] : va_W)) (([] : va_W)) sz res := by
  refine g_body (QQ := fun A => (qI G (ty5 cI cJ cZ cO cA) A (([] : va_W)) res)) (own := RL) (by decide) rfl (Nat.le_of_ble_eq_true rfl) ?_
  intro p ev s m below meth c A ls hx hb hr hml hown hts hlk hA hP hD hS hK hE hl
  have hl : lv_has ls 2 [(0, .int p0), (1, .int p1)] := hl
  show W p l ev ({ frames := 0, cells := 0, slots := 0, locals := 0 } : Room) s m ([.int p0, .int p1] : List Value).toArray below meth c s.heap [] 0 0 (MQ below (qI G (ty5 cI cJ cZ cO cA) A (([] : va_W)) res) ([.int p0, .int p1] : List Value).toArray s 0 0 A) (F0 m 0 ls [])
  have h := hf
  unfold f_L_low at h
  refine lv_iload_n hx hb dL_low_0 rfl (lv_at hl 0 rfl) ?_
  refine lv_ldc (v := 2147483647) hx hb hown (hts _ kw476) dL_low_1 ?_
  refine lv_iand hx hb dL_low_3 ?_
  refine lv_iload_n hx hb dL_low_4 rfl (lv_at hl 1 rfl) ?_
  obtain ⟨g1, h⟩ := gd_s h
  refine lv_irem hx hb dL_low_5 (nz_s g1) ?_
  rw [← Option.some.inj h]
  exact kri hx hb hr hlk rfl rfl hP hD hS hK dL_low_6

/-! L_bits -/
def f_L_bits_b4 (v0 : Int32) (z1 : Int32 × Int32) : Option ((Int32 × Int32) ⊕ (Int32)) :=
  if 8 ≤ z1.2 then (some (Sum.inr z1.1)) else (some (Sum.inl ((z1.1 + ((v0 >>> (z1.2 &&& 31)) &&& 1)), (z1.2 + 1))))
def f_L_bits (p0 : Int32) : Option (Int32) :=
  (lp (f_L_bits_b4 p0) 1000 (0, 0)).bind (fun q1 => some q1)

set_option maxHeartbeats 4000000 in
set_option maxRecDepth 100000 in
theorem c_L_bits (l : Launch) (G : va_G) (cI cJ cZ cO cA : ClassId) (e : Nat × Nat) (sz : Nat) (p0 : Int32) {res : Int32} (hf : f_L_bits p0 = some res) : MetI l yL_bits cL_bits 3 .int ({ frames := 0, cells := 0, slots := 0, locals := 0 } : Room) [.int p0] G (ty5 cI cJ cZ cO cA) e (([] : va_W)) (([] : va_W)) sz res := by
  refine g_body (QQ := fun A => (qI G (ty5 cI cJ cZ cO cA) A (([] : va_W)) res)) (own := RL) (by decide) rfl (Nat.le_of_ble_eq_true rfl) ?_
  intro p ev s m below meth c A ls hx hb hr hml hown hts hlk hA hP hD hS hK hE hl
  have hl : lv_has ls 3 [(0, .int p0)] := hl
  show W p l ev ({ frames := 0, cells := 0, slots := 0, locals := 0 } : Room) s m ([.int p0] : List Value).toArray below meth c s.heap [] 0 0 (MQ below (qI G (ty5 cI cJ cZ cO cA) A (([] : va_W)) res) ([.int p0] : List Value).toArray s 0 0 A) (F0 m 0 ls [])
  have h := hf
  unfold f_L_bits at h
  refine lv_iconst (v := 0) hx hb dL_bits_0 (by decide) ?_
  refine lv_istore_n (lv' := [(1, .int 0), (0, .int p0)]) hx hb dL_bits_1 rfl hl (by decide) rfl (fun ls hl => ?_)
  refine lv_iconst (v := 0) hx hb dL_bits_2 (by decide) ?_
  refine lv_istore_n (lv' := [(2, .int 0), (1, .int 0), (0, .int p0)]) hx hb dL_bits_3 rfl hl (by decide) rfl (fun ls hl => ?_)
  obtain ⟨q1, hq1, h⟩ := bd_s h
  have hX1_0 : ∀ (x1 : Int32) (H : Heap) (locs : List Loc) (ls : Array Slot), x1 = q1 → va_P G vwCl (([] : va_W)) H → va_D A (([] : va_W)) → va_S A s.heap H locs → lv_has ls 3 [(1, .int x1)] → W p l ev ({ frames := 0, cells := 0, slots := 0, locals := 0 } : Room) s m ([.int p0] : List Value).toArray below meth c H locs 0 0 (MQ below (qI G (ty5 cI cJ cZ cO cA) A (([] : va_W)) res) ([.int p0] : List Value).toArray s 0 0 A) (F0 m 24 ls []) := by
    intro x1 H locs ls e1 hP hD hS hl
    replace e1 := e1.symm
    subst e1
    refine lv_iload_n hx hb dL_bits_24 rfl (lv_at hl 0 rfl) ?_
    rw [← Option.some.inj h]
    exact kri hx hb hr hlk rfl rfl hP hD hS hK dL_bits_25
  have hL1 : ∀ (n : Nat) (z1 : Int32 × Int32) (H : Heap) (locs : List Loc) (ls : Array Slot), lp (f_L_bits_b4 p0) n z1 = some q1 → va_P G vwCl (([] : va_W)) H → va_D A (([] : va_W)) → va_S A s.heap H locs → lv_has ls 3 [(0, .int p0), (1, .int z1.1), (2, .int z1.2)] → W p l ev ({ frames := 0, cells := 0, slots := 0, locals := 0 } : Room) s m ([.int p0] : List Value).toArray below meth c H locs 0 0 (MQ below (qI G (ty5 cI cJ cZ cO cA) A (([] : va_W)) res) ([.int p0] : List Value).toArray s 0 0 A) (F0 m 4 ls []) := by
    intro n
    induction n with
    | zero => intro z1 H locs ls h; cases h
    | succ n ih1 =>
      intro z1 H locs ls h hP hD hS hl
      obtain ⟨o1, h, h1⟩ := lp_s h
      unfold f_L_bits_b4 at h
      refine lv_iload_n hx hb dL_bits_4 rfl (lv_at hl 2 rfl) ?_
      refine lv_bipush (v := 8) hx hb dL_bits_5 (by decide) ?_
      refine lv_icmp_ge (tgt := 24) hx hb dL_bits_7 (by decide) (fun c2 => ?_) (fun c2 => ?_)
      · replace h := (if_pos c2).symm.trans h
        rw [← Option.some.inj h] at h1
        exact hX1_0 z1.1 _ _ _ (lp_x h1) hP hD hS (lv_sub hl [1] rfl)
      · replace h := (if_neg c2).symm.trans h
        refine lv_iload_n hx hb dL_bits_10 rfl (lv_at hl 1 rfl) ?_
        refine lv_iload_n hx hb dL_bits_11 rfl (lv_at hl 0 rfl) ?_
        refine lv_iload_n hx hb dL_bits_12 rfl (lv_at hl 2 rfl) ?_
        refine lv_ishr hx hb dL_bits_13 ?_
        refine lv_iconst (v := 1) hx hb dL_bits_14 (by decide) ?_
        refine lv_iand hx hb dL_bits_15 ?_
        refine lv_iadd hx hb dL_bits_16 ?_
        refine lv_istore_n (lv' := [(1, .int (z1.1 + ((p0 >>> (z1.2 &&& 31)) &&& 1))), (0, .int p0), (2, .int z1.2)]) hx hb dL_bits_17 rfl hl (by decide) rfl (fun ls hl => ?_)
        refine lv_iinc (v := (z1.2 + 1)) (lv' := [(2, .int (z1.2 + 1)), (1, .int (z1.1 + ((p0 >>> (z1.2 &&& 31)) &&& 1))), (0, .int p0)]) hx hb dL_bits_18 hl (k := 2) rfl rfl (by decide) rfl (fun ls hl => ?_)
        refine lv_goto (tgt := 4) hx hb dL_bits_21 (by decide) ?_
        rw [← Option.some.inj h] at h1
        exact ih1 ((z1.1 + ((p0 >>> (z1.2 &&& 31)) &&& 1)), (z1.2 + 1)) _ _ _ (lp_b h1) hP hD hS (lv_sub hl [2, 1, 0] rfl)
  exact hL1 _ (0, 0) _ _ _ hq1 hP hD hS (lv_sub hl [2, 1, 0] rfl)

/-! L_isEnd -/
def f_L_isEnd (p0 : Int32) : Option (Int32) :=
  if p0 = 4000 then (some 1) else (if p0 = (-4000) then (some 1) else (some 0))

set_option maxHeartbeats 4000000 in
set_option maxRecDepth 100000 in
theorem c_L_isEnd (l : Launch) (G : va_G) (cI cJ cZ cO cA : ClassId) (e : Nat × Nat) (sz : Nat) (p0 : Int32) {res : Int32} (hf : f_L_isEnd p0 = some res) : MetI l yL_isEnd cL_isEnd 1 .boolean ({ frames := 0, cells := 0, slots := 0, locals := 0 } : Room) [.int p0] G (ty5 cI cJ cZ cO cA) e (([] : va_W)) (([] : va_W)) sz res := by
  refine g_body (QQ := fun A => (qI G (ty5 cI cJ cZ cO cA) A (([] : va_W)) res)) (own := RL) (by decide) rfl (Nat.le_of_ble_eq_true rfl) ?_
  intro p ev s m below meth c A ls hx hb hr hml hown hts hlk hA hP hD hS hK hE hl
  have hl : lv_has ls 1 [(0, .int p0)] := hl
  show W p l ev ({ frames := 0, cells := 0, slots := 0, locals := 0 } : Room) s m ([.int p0] : List Value).toArray below meth c s.heap [] 0 0 (MQ below (qI G (ty5 cI cJ cZ cO cA) A (([] : va_W)) res) ([.int p0] : List Value).toArray s 0 0 A) (F0 m 0 ls [])
  have h := hf
  unfold f_L_isEnd at h
  refine lv_iload_n hx hb dL_isEnd_0 rfl (lv_at hl 0 rfl) ?_
  refine lv_sipush (v := 4000) hx hb dL_isEnd_1 (by decide) ?_
  refine lv_icmp_eq (tgt := 14) hx hb dL_isEnd_4 (by decide) (fun c1 => ?_) (fun c1 => ?_)
  · replace h := (if_pos c1).symm.trans h
    refine lv_iconst (v := 1) hx hb dL_isEnd_14 (by decide) ?_
    refine lv_goto (tgt := 19) hx hb dL_isEnd_15 (by decide) ?_
    rw [← Option.some.inj h]
    exact kri hx hb hr hlk rfl rfl hP hD hS hK dL_isEnd_19
  · replace h := (if_neg c1).symm.trans h
    refine lv_iload_n hx hb dL_isEnd_7 rfl (lv_at hl 0 rfl) ?_
    refine lv_sipush (v := (-4000)) hx hb dL_isEnd_8 (by decide) ?_
    refine lv_icmp_ne (tgt := 18) hx hb dL_isEnd_11 (by decide) (fun c2 => ?_) (fun c2 => ?_)
    · replace h := (if_neg c2).symm.trans h
      refine lv_iconst (v := 0) hx hb dL_isEnd_18 (by decide) ?_
      rw [← Option.some.inj h]
      exact kri hx hb hr hlk rfl rfl hP hD hS hK dL_isEnd_19
    · replace h := (if_pos c2).symm.trans h
      refine lv_iconst (v := 1) hx hb dL_isEnd_14 (by decide) ?_
      refine lv_goto (tgt := 19) hx hb dL_isEnd_15 (by decide) ?_
      rw [← Option.some.inj h]
      exact kri hx hb hr hlk rfl rfl hP hD hS hK dL_isEnd_19

/-! L_isSelectionSound -/
def f_L_isSelectionSound_j227 (un : Nat → Nat → Int32) (tp : Nat → Int32) (sh : Nat → Int64) (de : Int64) (co : Int64) (ma : Int32) (ru : Int32) (fo : Int32) (pr : Nat → Int32) (ta : Nat → Int32) (tc : Int32) (v6 : Int32) (v7 : Int32) : Option (((Nat → Nat → Int32) × (Nat → Int32) × (Nat → Int64) × Int64 × Int64 × Int32 × Int32 × Int32 × Int32) ⊕ ((Nat → Nat → Int32) × (Nat → Int32) × (Nat → Int64) × Int64 × Int64 × Int32 × Int32 × Int32)) :=
  if v7 = 0 then (some (Sum.inl (un, tp, sh, de, co, ma, ru, fo, (v6 + 1)))) else ((f_X4_thruster pr ta tc v6 5).bind (fun q30 => if v7 < q30 then (none) else (if v7 ≤ 20 then (some (Sum.inl (un, tp, sh, de, co, ma, ru, fo, (v6 + 1)))) else (none))))
def f_L_isSelectionSound_j217 (un : Nat → Nat → Int32) (tp : Nat → Int32) (sh : Nat → Int64) (de : Int64) (co : Int64) (ma : Int32) (ru : Int32) (fo : Int32) (pr : Nat → Int32) (ta : Nat → Int32) (tc : Int32) (v6 : Int32) (v7 : Int32) (v8 : Int32) : Option (((Nat → Nat → Int32) × (Nat → Int32) × (Nat → Int64) × Int64 × Int64 × Int32 × Int32 × Int32 × Int32) ⊕ ((Nat → Nat → Int32) × (Nat → Int32) × (Nat → Int64) × Int64 × Int64 × Int32 × Int32 × Int32)) :=
  if v8 = 0 then (if v7 = 0 then (f_L_isSelectionSound_j227 un tp sh de co ma ru fo pr ta tc v6 v7) else (none)) else (f_L_isSelectionSound_j227 un tp sh de co ma ru fo pr ta tc v6 v7)
def f_L_isSelectionSound_j198 (un : Nat → Nat → Int32) (tp : Nat → Int32) (sh : Nat → Int64) (de : Int64) (co : Int64) (ma : Int32) (ru : Int32) (fo : Int32) (pr : Nat → Int32) (ta : Nat → Int32) (tc : Int32) (v6 : Int32) (v7 : Int32) (t0 : Int32) : Option (((Nat → Nat → Int32) × (Nat → Int32) × (Nat → Int64) × Int64 × Int64 × Int32 × Int32 × Int32 × Int32) ⊕ ((Nat → Nat → Int32) × (Nat → Int32) × (Nat → Int64) × Int64 × Int64 × Int32 × Int32 × Int32)) :=
  if t0 = 0 then (f_L_isSelectionSound_j217 un tp sh de co ma ru fo pr ta tc v6 v7 t0) else ((f_X4_thruster pr ta tc v6 7).bind (fun q34 => if q34 = 1 then (f_L_isSelectionSound_j217 un tp sh de co ma ru fo pr ta tc v6 v7 t0) else (none)))
def f_L_isSelectionSound_b162 (pr : Nat → Int32) (ta : Nat → Int32) (se : Nat → Int32) (tc : Int32) (sc : Int32) (v1 : Int32) (v2 : Int32) (v3 : Int32) (v4 : Int32) (z19 : (Nat → Nat → Int32) × (Nat → Int32) × (Nat → Int64) × Int64 × Int64 × Int32 × Int32 × Int32 × Int32) : Option (((Nat → Nat → Int32) × (Nat → Int32) × (Nat → Int64) × Int64 × Int64 × Int32 × Int32 × Int32 × Int32) ⊕ ((Nat → Nat → Int32) × (Nat → Int32) × (Nat → Int64) × Int64 × Int64 × Int32 × Int32 × Int32)) :=
  (f_X4_thrusters tc).bind (fun q20 => if q20 ≤ z19.2.2.2.2.2.2.2.2 then (some (Sum.inr (z19.1, z19.2.1, z19.2.2.1, z19.2.2.2.1, z19.2.2.2.2.1, z19.2.2.2.2.2.1, z19.2.2.2.2.2.2.1, z19.2.2.2.2.2.2.2.1))) else ((f_X4_pulse pr ta se tc sc z19.1 z19.2.1 z19.2.2.1 z19.2.2.2.1 z19.2.2.2.2.1 z19.2.2.2.2.2.1 z19.2.2.2.2.2.2.1 z19.2.2.2.2.2.2.2.1 v1 v2 v3 z19.2.2.2.2.2.2.2.2).bind (fun q22 => if ((v4 >>> (z19.2.2.2.2.2.2.2.2 &&& 31)) &&& 1) = 1 then (f_L_isSelectionSound_j198 q22.2.1 q22.2.2.1 q22.2.2.2.1 q22.2.2.2.2.1 q22.2.2.2.2.2.1 q22.2.2.2.2.2.2.1 q22.2.2.2.2.2.2.2.1 q22.2.2.2.2.2.2.2.2 pr ta tc z19.2.2.2.2.2.2.2.2 q22.1 1) else (f_L_isSelectionSound_j198 q22.2.1 q22.2.2.1 q22.2.2.2.1 q22.2.2.2.2.1 q22.2.2.2.2.2.1 q22.2.2.2.2.2.2.1 q22.2.2.2.2.2.2.2.1 q22.2.2.2.2.2.2.2.2 pr ta tc z19.2.2.2.2.2.2.2.2 q22.1 0))))
def f_L_isSelectionSound_j159 (un : Nat → Nat → Int32) (tp : Nat → Int32) (sh : Nat → Int64) (de : Int64) (co : Int64) (ma : Int32) (ru : Int32) (fo : Int32) (pr : Nat → Int32) (ta : Nat → Int32) (se : Nat → Int32) (tc : Int32) (sc : Int32) (v1 : Int32) (v2 : Int32) (v3 : Int32) (v4 : Int32) : Option (Int32 × (Nat → Nat → Int32) × (Nat → Int32) × (Nat → Int64) × Int64 × Int64 × Int32 × Int32 × Int32) :=
  (lp (f_L_isSelectionSound_b162 pr ta se tc sc v1 v2 v3 v4) 1000 (un, tp, sh, de, co, ma, ru, fo, 0)).bind (fun q19 => some (1, q19.1, q19.2.1, q19.2.2.1, q19.2.2.2.1, q19.2.2.2.2.1, q19.2.2.2.2.2.1, q19.2.2.2.2.2.2.1, q19.2.2.2.2.2.2.2))
def f_L_isSelectionSound_j147 (un : Nat → Nat → Int32) (tp : Nat → Int32) (sh : Nat → Int64) (de : Int64) (co : Int64) (ma : Int32) (ru : Int32) (fo : Int32) (pr : Nat → Int32) (ta : Nat → Int32) (se : Nat → Int32) (tc : Int32) (sc : Int32) (v1 : Int32) (v2 : Int32) (v3 : Int32) (v4 : Int32) (v5 : Int32) : Option (Int32 × (Nat → Nat → Int32) × (Nat → Int32) × (Nat → Int64) × Int64 × Int64 × Int32 × Int32 × Int32) :=
  if v4 = 0 then (if v5 = 0 then (f_L_isSelectionSound_j159 un tp sh de co ma ru fo pr ta se tc sc v1 v2 v3 v4) else (none)) else (f_L_isSelectionSound_j159 un tp sh de co ma ru fo pr ta se tc sc v1 v2 v3 v4)
def f_L_isSelectionSound_j128 (un : Nat → Nat → Int32) (tp : Nat → Int32) (sh : Nat → Int64) (de : Int64) (co : Int64) (ma : Int32) (ru : Int32) (fo : Int32) (pr : Nat → Int32) (ta : Nat → Int32) (se : Nat → Int32) (tc : Int32) (sc : Int32) (v1 : Int32) (v2 : Int32) (v3 : Int32) (v4 : Int32) (v5 : Int32) (t0 : Int32) (t1 : Int32) : Option (Int32 × (Nat → Nat → Int32) × (Nat → Int32) × (Nat → Int64) × Int64 × Int64 × Int32 × Int32 × Int32) :=
  if t1 = t0 then (if v4 = 0 then (f_L_isSelectionSound_j147 un tp sh de co ma ru fo pr ta se tc sc v1 v2 v3 v4 v5) else ((f_X4_isForbidden pr ta se tc sc v4).bind (fun q37 => if q37 = 0 then (f_L_isSelectionSound_j147 un tp sh de co ma ru fo pr ta se tc sc v1 v2 v3 v4 v5) else (none)))) else (none)
def f_L_isSelectionSound_j127 (un : Nat → Nat → Int32) (tp : Nat → Int32) (sh : Nat → Int64) (de : Int64) (co : Int64) (ma : Int32) (ru : Int32) (fo : Int32) (pr : Nat → Int32) (ta : Nat → Int32) (se : Nat → Int32) (tc : Int32) (sc : Int32) (v1 : Int32) (v2 : Int32) (v3 : Int32) (v4 : Int32) (v5 : Int32) (t0 : Int32) : Option (Int32 × (Nat → Nat → Int32) × (Nat → Int32) × (Nat → Int64) × Int64 × Int64 × Int32 × Int32 × Int32) :=
  f_L_isSelectionSound_j128 un tp sh de co ma ru fo pr ta se tc sc v1 v2 v3 v4 v5 0 t0
def f_L_isSelectionSound_j111 (un : Nat → Nat → Int32) (tp : Nat → Int32) (sh : Nat → Int64) (de : Int64) (co : Int64) (ma : Int32) (ru : Int32) (fo : Int32) (pr : Nat → Int32) (ta : Nat → Int32) (se : Nat → Int32) (tc : Int32) (sc : Int32) (v1 : Int32) (v2 : Int32) (v3 : Int32) (v4 : Int32) (v5 : Int32) (t0 : Int32) : Option (Int32 × (Nat → Nat → Int32) × (Nat → Int32) × (Nat → Int64) × Int64 × Int64 × Int32 × Int32 × Int32) :=
  if v1 = 0 then (if v2 = 0 then (if v3 = 0 then (f_L_isSelectionSound_j128 un tp sh de co ma ru fo pr ta se tc sc v1 v2 v3 v4 v5 1 t0) else (f_L_isSelectionSound_j127 un tp sh de co ma ru fo pr ta se tc sc v1 v2 v3 v4 v5 t0)) else (f_L_isSelectionSound_j127 un tp sh de co ma ru fo pr ta se tc sc v1 v2 v3 v4 v5 t0)) else (f_L_isSelectionSound_j127 un tp sh de co ma ru fo pr ta se tc sc v1 v2 v3 v4 v5 t0)
def f_L_isSelectionSound_j52 (un : Nat → Nat → Int32) (tp : Nat → Int32) (sh : Nat → Int64) (de : Int64) (co : Int64) (ma : Int32) (ru : Int32) (fo : Int32) (v1 : Int32) (v2 : Int32) (v3 : Int32) : Option (Int32 × (Nat → Nat → Int32) × (Nat → Int32) × (Nat → Int64) × Int64 × Int64 × Int32 × Int32 × Int32) :=
  if v1 = 0 then (if v2 = 0 then (if v3 = 0 then (none) else (some (1, un, tp, sh, de, co, ma, ru, fo))) else (some (1, un, tp, sh, de, co, ma, ru, fo))) else (some (1, un, tp, sh, de, co, ma, ru, fo))
def f_L_isSelectionSound (pr : Nat → Int32) (ta : Nat → Int32) (se : Nat → Int32) (tc : Int32) (sc : Int32) (un : Nat → Nat → Int32) (tp : Nat → Int32) (sh : Nat → Int64) (de : Int64) (co : Int64) (ma : Int32) (ru : Int32) (fo : Int32) (p1 : Int32) (p2 : Int32) (p3 : Int32) : Option (Int32 × (Nat → Nat → Int32) × (Nat → Int32) × (Nat → Int64) × Int64 × Int64 × Int32 × Int32 × Int32) :=
  (f_X4_select pr ta se tc sc un tp sh de co ma ru fo p1 p2 p3).bind (fun q1 => (f_X4_price pr ta se tc sc q1.2.1 q1.2.2.1 q1.2.2.2.1 q1.2.2.2.2.1 q1.2.2.2.2.2.1 q1.2.2.2.2.2.2.1 q1.2.2.2.2.2.2.2.1 q1.2.2.2.2.2.2.2.2 p1 p2 p3).bind (fun q2 => if q1.1 = (-2000000000) then (if q2.1 = (-2000000000) then ((f_X4_thrusters tc).bind (fun q43 => if q43 = 0 then (f_L_isSelectionSound_j52 q2.2.1 q2.2.2.1 q2.2.2.2.1 q2.2.2.2.2.1 q2.2.2.2.2.2.1 q2.2.2.2.2.2.2.1 q2.2.2.2.2.2.2.2.1 q2.2.2.2.2.2.2.2.2 p1 p2 p3) else ((f_X4_pulse pr ta se tc sc q2.2.1 q2.2.2.1 q2.2.2.2.1 q2.2.2.2.2.1 q2.2.2.2.2.2.1 q2.2.2.2.2.2.2.1 q2.2.2.2.2.2.2.2.1 q2.2.2.2.2.2.2.2.2 p1 p2 p3 0).bind (fun q49 => if q49.1 = (-2000000000) then (f_L_isSelectionSound_j52 q49.2.1 q49.2.2.1 q49.2.2.2.1 q49.2.2.2.2.1 q49.2.2.2.2.2.1 q49.2.2.2.2.2.2.1 q49.2.2.2.2.2.2.2.1 q49.2.2.2.2.2.2.2.2 p1 p2 p3) else (none))))) else (none)) else ((f_L_bits q1.1).bind (fun q4 => if 3 < q4 then (none) else ((f_X4_thrusters tc).bind (fun q6 => if (q1.1 >>> (q6 &&& 31)) = 0 then (if q2.1 < 0 then (none) else (if 1200000 < q2.1 then (none) else (if q1.1 = 0 then (f_L_isSelectionSound_j111 q2.2.1 q2.2.2.1 q2.2.2.2.1 q2.2.2.2.2.1 q2.2.2.2.2.2.1 q2.2.2.2.2.2.2.1 q2.2.2.2.2.2.2.2.1 q2.2.2.2.2.2.2.2.2 pr ta se tc sc p1 p2 p3 q1.1 q2.1 1) else (f_L_isSelectionSound_j111 q2.2.1 q2.2.2.1 q2.2.2.2.1 q2.2.2.2.2.1 q2.2.2.2.2.2.1 q2.2.2.2.2.2.2.1 q2.2.2.2.2.2.2.2.1 q2.2.2.2.2.2.2.2.2 pr ta se tc sc p1 p2 p3 q1.1 q2.1 0)))) else (none)))))))

set_option maxHeartbeats 4000000 in
set_option maxRecDepth 100000 in
theorem c_L_isSelectionSound (l : Launch) (G : va_G) (cI cJ cZ cO cA : ClassId) (e : Nat × Nat) (aE : Nat → Nat) (aR : Nat → Nat) (aT : Nat) (aS : Nat → Nat) (aH : Nat → Nat) (aX : Nat → Nat) (sz : Nat) (un : Nat → Nat → Int32) (tp : Nat → Int32) (sh : Nat → Int64) (de : Int64) (co : Int64) (ma : Int32) (ru : Int32) (fo : Int32) (pr : Nat → Int32) (pu : Nat → Int32) (ta : Nat → Int32) (se : Nat → Int32) (qu : Nat → Int32) (im : Nat → Int32) (su : Nat → Int64) (tc : Int32) (sc : Int32) (rc : Int32) (cn : Int32) (so : Int32) (p1 : Int32) (p2 : Int32) (p3 : Int32) {res : Int32 × (Nat → Nat → Int32) × (Nat → Int32) × (Nat → Int64) × Int64 × Int64 × Int32 × Int32 × Int32} (hf : f_L_isSelectionSound pr ta se tc sc un tp sh de co ma ru fo p1 p2 p3 = some res) : MetI l yL_isSelectionSound cL_isSelectionSound 9 .boolean ({ frames := 7, cells := 0, slots := 0, locals := 160 } : Room) [.ref aT, .int p1, .int p2, .int p3] G (ty5 cI cJ cZ cO cA) e (wE cI cJ cA aE aR un tp sh de co ma ru fo ++ (wT aT (aS 0) (aH 0) (aE 0) (aX 0) ++ (wS cI cJ aS pr pu ta se qu im su tc sc rc cn so ++ ([] : va_W)))) (wE cI cJ cA aE aR res.2.1 res.2.2.1 res.2.2.2.1 res.2.2.2.2.1 res.2.2.2.2.2.1 res.2.2.2.2.2.2.1 res.2.2.2.2.2.2.2.1 res.2.2.2.2.2.2.2.2 ++ (wT aT (aS 0) (aH 0) (aE 0) (aX 0) ++ (wS cI cJ aS pr pu ta se qu im su tc sc rc cn so ++ ([] : va_W)))) sz res.1 := by
  refine g_body (QQ := fun A => (qI G (ty5 cI cJ cZ cO cA) A (wE cI cJ cA aE aR res.2.1 res.2.2.1 res.2.2.2.1 res.2.2.2.2.1 res.2.2.2.2.2.1 res.2.2.2.2.2.2.1 res.2.2.2.2.2.2.2.1 res.2.2.2.2.2.2.2.2 ++ (wT aT (aS 0) (aH 0) (aE 0) (aX 0) ++ (wS cI cJ aS pr pu ta se qu im su tc sc rc cn so ++ ([] : va_W)))) res.1)) (own := RL) (by decide) rfl (Nat.le_of_ble_eq_true rfl) ?_
  intro p ev s m below meth c A ls hx hb hr hml hown hts hlk hA hP hD hS hK hE hl
  have hl : lv_has ls 9 [(0, .ref aT), (1, .int p1), (2, .int p2), (3, .int p3)] := hl
  show W p l ev ({ frames := 7, cells := 0, slots := 0, locals := 160 } : Room) s m ([.ref aT, .int p1, .int p2, .int p3] : List Value).toArray below meth c s.heap [] 0 0 (MQ below (qI G (ty5 cI cJ cZ cO cA) A (wE cI cJ cA aE aR res.2.1 res.2.2.1 res.2.2.2.1 res.2.2.2.2.1 res.2.2.2.2.2.1 res.2.2.2.2.2.2.1 res.2.2.2.2.2.2.2.1 res.2.2.2.2.2.2.2.2 ++ (wT aT (aS 0) (aH 0) (aE 0) (aX 0) ++ (wS cI cJ aS pr pu ta se qu im su tc sc rc cn so ++ ([] : va_W)))) res.1) ([.ref aT, .int p1, .int p2, .int p3] : List Value).toArray s 0 0 A) (F0 m 0 ls [])
  have h := hf
  unfold f_L_isSelectionSound at h
  refine lv_aload_n hx hb dL_isSelectionSound_0 rfl (lv_at hl 0 rfl) ?_
  refine lv_iload_n hx hb dL_isSelectionSound_1 rfl (lv_at hl 1 rfl) ?_
  refine lv_iload_n hx hb dL_isSelectionSound_2 rfl (lv_at hl 2 rfl) ?_
  refine lv_iload_n hx hb dL_isSelectionSound_3 rfl (lv_at hl 3 rfl) ?_
  obtain ⟨q1, hq1, h⟩ := bd_s h
  refine kVi (n := 3) (C := RX4) (ws' := wE cI cJ cA aE aR q1.2.1 q1.2.2.1 q1.2.2.2.1 q1.2.2.2.2.1 q1.2.2.2.2.2.1 q1.2.2.2.2.2.2.1 q1.2.2.2.2.2.2.2.1 q1.2.2.2.2.2.2.2.2 ++ (wT aT (aS 0) (aH 0) (aE 0) (aX 0) ++ (wS cI cJ aS pr pu ta se qu im su tc sc rc cn so ++ ([] : va_W)))) (As := [.int p1, .int p2, .int p3]) (rest := []) hx hb hml hown hts (c_X4_select l G cI cJ cZ cO cA e aE aR aT aS aH aX _ un tp sh de co ma ru fo pr pu ta se qu im su tc sc rc cn so p1 p2 p3 hq1) (tb_V kw289 kw290 kw291 kw1 kw292) rfl rfl (by decide +kernel) ⟨Nat.le_of_ble_eq_true rfl, Nat.le_of_ble_eq_true rfl⟩ hK hP hD hS hA hE 13 rfl rfl [0, 1, 2, 3, 4, 5, 6, 7, 8, 9, 10, 11, 12, 13, 14, 15, 16, 17, 18, 19, 20, 21] [] rfl rfl rfl 22 ⟨rfl, rfl⟩ (by decide +kernel) (by decide +kernel) rfl rfl hl.1 (Nat.le_of_ble_eq_true rfl) ⟨Nat.zero_le _, Nat.zero_le _⟩ dL_isSelectionSound_4 (fun H locs hP hD hS => ?_)
  refine lv_istore (lv' := [(4, .int q1.1), (0, .ref aT), (1, .int p1), (2, .int p2), (3, .int p3)]) hx hb dL_isSelectionSound_7 hl (by decide) rfl (fun ls hl => ?_)
  refine lv_aload_n hx hb dL_isSelectionSound_9 rfl (lv_at hl 1 rfl) ?_
  refine lv_iload_n hx hb dL_isSelectionSound_10 rfl (lv_at hl 2 rfl) ?_
  refine lv_iload_n hx hb dL_isSelectionSound_11 rfl (lv_at hl 3 rfl) ?_
  refine lv_iload_n hx hb dL_isSelectionSound_12 rfl (lv_at hl 4 rfl) ?_
  obtain ⟨q2, hq2, h⟩ := bd_s h
  refine kVi (n := 3) (C := RX4) (ws' := wE cI cJ cA aE aR q2.2.1 q2.2.2.1 q2.2.2.2.1 q2.2.2.2.2.1 q2.2.2.2.2.2.1 q2.2.2.2.2.2.2.1 q2.2.2.2.2.2.2.2.1 q2.2.2.2.2.2.2.2.2 ++ (wT aT (aS 0) (aH 0) (aE 0) (aX 0) ++ (wS cI cJ aS pr pu ta se qu im su tc sc rc cn so ++ ([] : va_W)))) (As := [.int p1, .int p2, .int p3]) (rest := []) hx hb hml hown hts (c_X4_price l G cI cJ cZ cO cA e aE aR aT aS aH aX _ q1.2.1 q1.2.2.1 q1.2.2.2.1 q1.2.2.2.2.1 q1.2.2.2.2.2.1 q1.2.2.2.2.2.2.1 q1.2.2.2.2.2.2.2.1 q1.2.2.2.2.2.2.2.2 pr pu ta se qu im su tc sc rc cn so p1 p2 p3 hq2) (tb_V kw480 kw481 kw482 kw1 kw483) rfl rfl (by decide +kernel) ⟨Nat.le_of_ble_eq_true rfl, Nat.le_of_ble_eq_true rfl⟩ hK hP hD hS hA hE 13 rfl rfl [0, 1, 2, 3, 4, 5, 6, 7, 8, 9, 10, 11, 12, 13, 14, 15, 16, 17, 18, 19, 20, 21] [] rfl rfl rfl 22 ⟨rfl, rfl⟩ (by decide +kernel) (by decide +kernel) rfl rfl hl.1 (Nat.le_of_ble_eq_true rfl) ⟨Nat.zero_le _, Nat.zero_le _⟩ dL_isSelectionSound_13 (fun H locs hP hD hS => ?_)
  refine lv_istore (lv' := [(5, .int q2.1), (4, .int q1.1), (0, .ref aT), (1, .int p1), (2, .int p2), (3, .int p3)]) hx hb dL_isSelectionSound_16 hl (by decide) rfl (fun ls hl => ?_)
  refine lv_iload hx hb dL_isSelectionSound_18 (lv_at hl 1 rfl) ?_
  refine lv_ldc (v := (-2000000000)) hx hb hown (hts _ kw489) dL_isSelectionSound_20 ?_
  refine lv_icmp_ne (tgt := 70) hx hb dL_isSelectionSound_22 (by decide) (fun c3 => ?_) (fun c3 => ?_)
  · replace h := (if_neg c3).symm.trans h
    refine lv_iload hx hb dL_isSelectionSound_70 (lv_at hl 1 rfl) ?_
    obtain ⟨q4, hq4, h⟩ := bd_s h
    refine kSi (n := 1) (As := [.int q1.1]) (rest := []) hx hb hml hown hts (c_L_bits l G cI cJ cZ cO cA e _ q1.1 hq4) (tb_S kw490 kw491 kw0 kw492) rfl rfl (by decide +kernel) ⟨Nat.le_of_ble_eq_true rfl, Nat.le_of_ble_eq_true rfl⟩ hK hP hD hS hA hE rfl rfl hl.1 (Nat.le_of_ble_eq_true rfl) ⟨Nat.zero_le _, Nat.zero_le _⟩ dL_isSelectionSound_72 (fun H locs hP hD hS => ?_)
    refine lv_iconst (v := 3) hx hb dL_isSelectionSound_75 (by decide) ?_
    refine lv_icmp_gt (tgt := 131) hx hb dL_isSelectionSound_76 (by decide) (fun c5 => ?_) (fun c5 => ?_)
    · replace h := (if_pos c5).symm.trans h
      cases h
    · replace h := (if_neg c5).symm.trans h
      refine lv_iload hx hb dL_isSelectionSound_79 (lv_at hl 1 rfl) ?_
      refine lv_aload_n hx hb dL_isSelectionSound_81 rfl (lv_at hl 2 rfl) ?_
      obtain ⟨q6, hq6, h⟩ := bd_s h
      refine kVi (n := 0) (C := RX4) (ws' := wE cI cJ cA aE aR q2.2.1 q2.2.2.1 q2.2.2.2.1 q2.2.2.2.2.1 q2.2.2.2.2.2.1 q2.2.2.2.2.2.2.1 q2.2.2.2.2.2.2.2.1 q2.2.2.2.2.2.2.2.2 ++ (wT aT (aS 0) (aH 0) (aE 0) (aX 0) ++ (wS cI cJ aS pr pu ta se qu im su tc sc rc cn so ++ ([] : va_W)))) (As := []) (rest := [.int q1.1]) hx hb hml hown hts (c_X4_thrusters l G cI cJ cZ cO cA e aT aS aH aE aX _ pr pu ta se qu im su tc sc rc cn so hq6) (tb_V kw213 kw214 kw215 kw1 kw216) rfl rfl (by decide +kernel) ⟨Nat.le_of_ble_eq_true rfl, Nat.le_of_ble_eq_true rfl⟩ hK hP hD hS hA hE 13 rfl rfl [13, 14, 15, 16, 17, 18, 19, 20, 21] [0, 1, 2, 3, 4, 5, 6, 7, 8, 9, 10, 11, 12] rfl rfl rfl 22 ⟨rfl, rfl⟩ (by decide +kernel) (by decide +kernel) rfl rfl hl.1 (Nat.le_of_ble_eq_true rfl) ⟨Nat.zero_le _, Nat.zero_le _⟩ dL_isSelectionSound_82 (fun H locs hP hD hS => ?_)
      refine lv_ishr hx hb dL_isSelectionSound_85 ?_
      refine lv_if_ne (tgt := 131) hx hb dL_isSelectionSound_86 (by decide) (fun c7 => ?_) (fun c7 => ?_)
      · replace h := (if_neg c7).symm.trans h
        cases h
      · replace h := (if_pos c7).symm.trans h
        refine lv_iload hx hb dL_isSelectionSound_89 (lv_at hl 0 rfl) ?_
        refine lv_if_lt (tgt := 131) hx hb dL_isSelectionSound_91 (by decide) (fun c8 => ?_) (fun c8 => ?_)
        · replace h := (if_pos c8).symm.trans h
          cases h
        · replace h := (if_neg c8).symm.trans h
          refine lv_iload hx hb dL_isSelectionSound_94 (lv_at hl 0 rfl) ?_
          refine lv_ldc (v := 1200000) hx hb hown (hts _ kw493) dL_isSelectionSound_96 ?_
          refine lv_icmp_gt (tgt := 131) hx hb dL_isSelectionSound_98 (by decide) (fun c9 => ?_) (fun c9 => ?_)
          · replace h := (if_pos c9).symm.trans h
            cases h
          · replace h := (if_neg c9).symm.trans h
            refine lv_iload hx hb dL_isSelectionSound_101 (lv_at hl 1 rfl) ?_
            have hJ11 : ∀ (un_11 : Nat → Nat → Int32) (tp_11 : Nat → Int32) (sh_11 : Nat → Int64) (de_11 : Int64) (co_11 : Int64) (ma_11 : Int32) (ru_11 : Int32) (fo_11 : Int32) (v4_11 : Int32) (v5_11 : Int32) (t0_11 : Int32) (H : Heap) (locs : List Loc) (ls : Array Slot), f_L_isSelectionSound_j111 un_11 tp_11 sh_11 de_11 co_11 ma_11 ru_11 fo_11 pr ta se tc sc p1 p2 p3 v4_11 v5_11 t0_11 = some res → va_P G vwCl (wE cI cJ cA aE aR un_11 tp_11 sh_11 de_11 co_11 ma_11 ru_11 fo_11 ++ (wT aT (aS 0) (aH 0) (aE 0) (aX 0) ++ (wS cI cJ aS pr pu ta se qu im su tc sc rc cn so ++ ([] : va_W)))) H → va_D A (wE cI cJ cA aE aR un_11 tp_11 sh_11 de_11 co_11 ma_11 ru_11 fo_11 ++ (wT aT (aS 0) (aH 0) (aE 0) (aX 0) ++ (wS cI cJ aS pr pu ta se qu im su tc sc rc cn so ++ ([] : va_W)))) → va_S A s.heap H locs → lv_has ls 9 [(0, .ref aT), (1, .int p1), (2, .int p2), (3, .int p3), (4, .int v4_11), (5, .int v5_11)] → W p l ev ({ frames := 7, cells := 0, slots := 0, locals := 160 } : Room) s m ([.ref aT, .int p1, .int p2, .int p3] : List Value).toArray below meth c H locs 0 0 (MQ below (qI G (ty5 cI cJ cZ cO cA) A (wE cI cJ cA aE aR res.2.1 res.2.2.1 res.2.2.2.1 res.2.2.2.2.1 res.2.2.2.2.2.1 res.2.2.2.2.2.2.1 res.2.2.2.2.2.2.2.1 res.2.2.2.2.2.2.2.2 ++ (wT aT (aS 0) (aH 0) (aE 0) (aX 0) ++ (wS cI cJ aS pr pu ta se qu im su tc sc rc cn so ++ ([] : va_W)))) res.1) ([.ref aT, .int p1, .int p2, .int p3] : List Value).toArray s 0 0 A) (F0 m 111 ls [.int t0_11]) := by
              intro un_11 tp_11 sh_11 de_11 co_11 ma_11 ru_11 fo_11 v4_11 v5_11 t0_11 H locs ls h hP hD hS hl
              unfold f_L_isSelectionSound_j111 at h
              refine lv_iload_n hx hb dL_isSelectionSound_111 rfl (lv_at hl 1 rfl) ?_
              have hJ13 : ∀ (un_13 : Nat → Nat → Int32) (tp_13 : Nat → Int32) (sh_13 : Nat → Int64) (de_13 : Int64) (co_13 : Int64) (ma_13 : Int32) (ru_13 : Int32) (fo_13 : Int32) (v4_13 : Int32) (v5_13 : Int32) (t0_13 : Int32) (t1_13 : Int32) (H : Heap) (locs : List Loc) (ls : Array Slot), f_L_isSelectionSound_j128 un_13 tp_13 sh_13 de_13 co_13 ma_13 ru_13 fo_13 pr ta se tc sc p1 p2 p3 v4_13 v5_13 t0_13 t1_13 = some res → va_P G vwCl (wE cI cJ cA aE aR un_13 tp_13 sh_13 de_13 co_13 ma_13 ru_13 fo_13 ++ (wT aT (aS 0) (aH 0) (aE 0) (aX 0) ++ (wS cI cJ aS pr pu ta se qu im su tc sc rc cn so ++ ([] : va_W)))) H → va_D A (wE cI cJ cA aE aR un_13 tp_13 sh_13 de_13 co_13 ma_13 ru_13 fo_13 ++ (wT aT (aS 0) (aH 0) (aE 0) (aX 0) ++ (wS cI cJ aS pr pu ta se qu im su tc sc rc cn so ++ ([] : va_W)))) → va_S A s.heap H locs → lv_has ls 9 [(0, .ref aT), (1, .int p1), (2, .int p2), (3, .int p3), (4, .int v4_13), (5, .int v5_13)] → W p l ev ({ frames := 7, cells := 0, slots := 0, locals := 160 } : Room) s m ([.ref aT, .int p1, .int p2, .int p3] : List Value).toArray below meth c H locs 0 0 (MQ below (qI G (ty5 cI cJ cZ cO cA) A (wE cI cJ cA aE aR res.2.1 res.2.2.1 res.2.2.2.1 res.2.2.2.2.1 res.2.2.2.2.2.1 res.2.2.2.2.2.2.1 res.2.2.2.2.2.2.2.1 res.2.2.2.2.2.2.2.2 ++ (wT aT (aS 0) (aH 0) (aE 0) (aX 0) ++ (wS cI cJ aS pr pu ta se qu im su tc sc rc cn so ++ ([] : va_W)))) res.1) ([.ref aT, .int p1, .int p2, .int p3] : List Value).toArray s 0 0 A) (F0 m 128 ls [.int t0_13, .int t1_13]) := by
                intro un_13 tp_13 sh_13 de_13 co_13 ma_13 ru_13 fo_13 v4_13 v5_13 t0_13 t1_13 H locs ls h hP hD hS hl
                unfold f_L_isSelectionSound_j128 at h
                refine lv_icmp_eq (tgt := 133) hx hb dL_isSelectionSound_128 (by decide) (fun c14 => ?_) (fun c14 => ?_)
                · replace h := (if_pos c14).symm.trans h
                  refine lv_iload hx hb dL_isSelectionSound_133 (lv_at hl 4 rfl) ?_
                  have hJ16 : ∀ (un_16 : Nat → Nat → Int32) (tp_16 : Nat → Int32) (sh_16 : Nat → Int64) (de_16 : Int64) (co_16 : Int64) (ma_16 : Int32) (ru_16 : Int32) (fo_16 : Int32) (v4_16 : Int32) (v5_16 : Int32) (H : Heap) (locs : List Loc) (ls : Array Slot), f_L_isSelectionSound_j147 un_16 tp_16 sh_16 de_16 co_16 ma_16 ru_16 fo_16 pr ta se tc sc p1 p2 p3 v4_16 v5_16 = some res → va_P G vwCl (wE cI cJ cA aE aR un_16 tp_16 sh_16 de_16 co_16 ma_16 ru_16 fo_16 ++ (wT aT (aS 0) (aH 0) (aE 0) (aX 0) ++ (wS cI cJ aS pr pu ta se qu im su tc sc rc cn so ++ ([] : va_W)))) H → va_D A (wE cI cJ cA aE aR un_16 tp_16 sh_16 de_16 co_16 ma_16 ru_16 fo_16 ++ (wT aT (aS 0) (aH 0) (aE 0) (aX 0) ++ (wS cI cJ aS pr pu ta se qu im su tc sc rc cn so ++ ([] : va_W)))) → va_S A s.heap H locs → lv_has ls 9 [(0, .ref aT), (1, .int p1), (2, .int p2), (3, .int p3), (4, .int v4_16), (5, .int v5_16)] → W p l ev ({ frames := 7, cells := 0, slots := 0, locals := 160 } : Room) s m ([.ref aT, .int p1, .int p2, .int p3] : List Value).toArray below meth c H locs 0 0 (MQ below (qI G (ty5 cI cJ cZ cO cA) A (wE cI cJ cA aE aR res.2.1 res.2.2.1 res.2.2.2.1 res.2.2.2.2.1 res.2.2.2.2.2.1 res.2.2.2.2.2.2.1 res.2.2.2.2.2.2.2.1 res.2.2.2.2.2.2.2.2 ++ (wT aT (aS 0) (aH 0) (aE 0) (aX 0) ++ (wS cI cJ aS pr pu ta se qu im su tc sc rc cn so ++ ([] : va_W)))) res.1) ([.ref aT, .int p1, .int p2, .int p3] : List Value).toArray s 0 0 A) (F0 m 147 ls []) := by
                    intro un_16 tp_16 sh_16 de_16 co_16 ma_16 ru_16 fo_16 v4_16 v5_16 H locs ls h hP hD hS hl
                    unfold f_L_isSelectionSound_j147 at h
                    refine lv_iload hx hb dL_isSelectionSound_147 (lv_at hl 4 rfl) ?_
                    have hJ18 : ∀ (un_18 : Nat → Nat → Int32) (tp_18 : Nat → Int32) (sh_18 : Nat → Int64) (de_18 : Int64) (co_18 : Int64) (ma_18 : Int32) (ru_18 : Int32) (fo_18 : Int32) (v4_18 : Int32) (H : Heap) (locs : List Loc) (ls : Array Slot), f_L_isSelectionSound_j159 un_18 tp_18 sh_18 de_18 co_18 ma_18 ru_18 fo_18 pr ta se tc sc p1 p2 p3 v4_18 = some res → va_P G vwCl (wE cI cJ cA aE aR un_18 tp_18 sh_18 de_18 co_18 ma_18 ru_18 fo_18 ++ (wT aT (aS 0) (aH 0) (aE 0) (aX 0) ++ (wS cI cJ aS pr pu ta se qu im su tc sc rc cn so ++ ([] : va_W)))) H → va_D A (wE cI cJ cA aE aR un_18 tp_18 sh_18 de_18 co_18 ma_18 ru_18 fo_18 ++ (wT aT (aS 0) (aH 0) (aE 0) (aX 0) ++ (wS cI cJ aS pr pu ta se qu im su tc sc rc cn so ++ ([] : va_W)))) → va_S A s.heap H locs → lv_has ls 9 [(0, .ref aT), (1, .int p1), (2, .int p2), (3, .int p3), (4, .int v4_18)] → W p l ev ({ frames := 7, cells := 0, slots := 0, locals := 160 } : Room) s m ([.ref aT, .int p1, .int p2, .int p3] : List Value).toArray below meth c H locs 0 0 (MQ below (qI G (ty5 cI cJ cZ cO cA) A (wE cI cJ cA aE aR res.2.1 res.2.2.1 res.2.2.2.1 res.2.2.2.2.1 res.2.2.2.2.2.1 res.2.2.2.2.2.2.1 res.2.2.2.2.2.2.2.1 res.2.2.2.2.2.2.2.2 ++ (wT aT (aS 0) (aH 0) (aE 0) (aX 0) ++ (wS cI cJ aS pr pu ta se qu im su tc sc rc cn so ++ ([] : va_W)))) res.1) ([.ref aT, .int p1, .int p2, .int p3] : List Value).toArray s 0 0 A) (F0 m 159 ls []) := by
                      intro un_18 tp_18 sh_18 de_18 co_18 ma_18 ru_18 fo_18 v4_18 H locs ls h hP hD hS hl
                      unfold f_L_isSelectionSound_j159 at h
                      refine lv_iconst (v := 0) hx hb dL_isSelectionSound_159 (by decide) ?_
                      refine lv_istore (lv' := [(6, .int 0), (0, .ref aT), (1, .int p1), (2, .int p2), (3, .int p3), (4, .int v4_18)]) hx hb dL_isSelectionSound_160 hl (by decide) rfl (fun ls hl => ?_)
                      obtain ⟨q19, hq19, h⟩ := bd_s h
                      have hX19_0 : ∀ (x19 : (Nat → Nat → Int32) × (Nat → Int32) × (Nat → Int64) × Int64 × Int64 × Int32 × Int32 × Int32) (H : Heap) (locs : List Loc) (ls : Array Slot), x19 = q19 → va_P G vwCl (wE cI cJ cA aE aR x19.1 x19.2.1 x19.2.2.1 x19.2.2.2.1 x19.2.2.2.2.1 x19.2.2.2.2.2.1 x19.2.2.2.2.2.2.1 x19.2.2.2.2.2.2.2 ++ (wT aT (aS 0) (aH 0) (aE 0) (aX 0) ++ (wS cI cJ aS pr pu ta se qu im su tc sc rc cn so ++ ([] : va_W)))) H → va_D A (wE cI cJ cA aE aR x19.1 x19.2.1 x19.2.2.1 x19.2.2.2.1 x19.2.2.2.2.1 x19.2.2.2.2.2.1 x19.2.2.2.2.2.2.1 x19.2.2.2.2.2.2.2 ++ (wT aT (aS 0) (aH 0) (aE 0) (aX 0) ++ (wS cI cJ aS pr pu ta se qu im su tc sc rc cn so ++ ([] : va_W)))) → va_S A s.heap H locs → lv_has ls 9 [] → W p l ev ({ frames := 7, cells := 0, slots := 0, locals := 160 } : Room) s m ([.ref aT, .int p1, .int p2, .int p3] : List Value).toArray below meth c H locs 0 0 (MQ below (qI G (ty5 cI cJ cZ cO cA) A (wE cI cJ cA aE aR res.2.1 res.2.2.1 res.2.2.2.1 res.2.2.2.2.1 res.2.2.2.2.2.1 res.2.2.2.2.2.2.1 res.2.2.2.2.2.2.2.1 res.2.2.2.2.2.2.2.2 ++ (wT aT (aS 0) (aH 0) (aE 0) (aX 0) ++ (wS cI cJ aS pr pu ta se qu im su tc sc rc cn so ++ ([] : va_W)))) res.1) ([.ref aT, .int p1, .int p2, .int p3] : List Value).toArray s 0 0 A) (F0 m 259 ls []) := by
                        intro x19 H locs ls e19 hP hD hS hl
                        replace e19 := e19.symm
                        subst e19
                        refine lv_iconst (v := 1) hx hb dL_isSelectionSound_259 (by decide) ?_
                        rw [← Option.some.inj h]
                        exact kri hx hb hr hlk rfl rfl hP hD hS hK dL_isSelectionSound_260
                      have hL19 : ∀ (n : Nat) (z19 : (Nat → Nat → Int32) × (Nat → Int32) × (Nat → Int64) × Int64 × Int64 × Int32 × Int32 × Int32 × Int32) (H : Heap) (locs : List Loc) (ls : Array Slot), lp (f_L_isSelectionSound_b162 pr ta se tc sc p1 p2 p3 v4_18) n z19 = some q19 → va_P G vwCl (wE cI cJ cA aE aR z19.1 z19.2.1 z19.2.2.1 z19.2.2.2.1 z19.2.2.2.2.1 z19.2.2.2.2.2.1 z19.2.2.2.2.2.2.1 z19.2.2.2.2.2.2.2.1 ++ (wT aT (aS 0) (aH 0) (aE 0) (aX 0) ++ (wS cI cJ aS pr pu ta se qu im su tc sc rc cn so ++ ([] : va_W)))) H → va_D A (wE cI cJ cA aE aR z19.1 z19.2.1 z19.2.2.1 z19.2.2.2.1 z19.2.2.2.2.1 z19.2.2.2.2.2.1 z19.2.2.2.2.2.2.1 z19.2.2.2.2.2.2.2.1 ++ (wT aT (aS 0) (aH 0) (aE 0) (aX 0) ++ (wS cI cJ aS pr pu ta se qu im su tc sc rc cn so ++ ([] : va_W)))) → va_S A s.heap H locs → lv_has ls 9 [(0, .ref aT), (1, .int p1), (2, .int p2), (3, .int p3), (4, .int v4_18), (6, .int z19.2.2.2.2.2.2.2.2)] → W p l ev ({ frames := 7, cells := 0, slots := 0, locals := 160 } : Room) s m ([.ref aT, .int p1, .int p2, .int p3] : List Value).toArray below meth c H locs 0 0 (MQ below (qI G (ty5 cI cJ cZ cO cA) A (wE cI cJ cA aE aR res.2.1 res.2.2.1 res.2.2.2.1 res.2.2.2.2.1 res.2.2.2.2.2.1 res.2.2.2.2.2.2.1 res.2.2.2.2.2.2.2.1 res.2.2.2.2.2.2.2.2 ++ (wT aT (aS 0) (aH 0) (aE 0) (aX 0) ++ (wS cI cJ aS pr pu ta se qu im su tc sc rc cn so ++ ([] : va_W)))) res.1) ([.ref aT, .int p1, .int p2, .int p3] : List Value).toArray s 0 0 A) (F0 m 162 ls []) := by
                        intro n
                        induction n with
                        | zero => intro z19 H locs ls h; cases h
                        | succ n ih19 =>
                          intro z19 H locs ls h hP hD hS hl
                          obtain ⟨o19, h, h19⟩ := lp_s h
                          unfold f_L_isSelectionSound_b162 at h
                          refine lv_iload hx hb dL_isSelectionSound_162 (lv_at hl 5 rfl) ?_
                          refine lv_aload_n hx hb dL_isSelectionSound_164 rfl (lv_at hl 0 rfl) ?_
                          obtain ⟨q20, hq20, h⟩ := bd_s h
                          refine kVi (n := 0) (C := RX4) (ws' := wE cI cJ cA aE aR z19.1 z19.2.1 z19.2.2.1 z19.2.2.2.1 z19.2.2.2.2.1 z19.2.2.2.2.2.1 z19.2.2.2.2.2.2.1 z19.2.2.2.2.2.2.2.1 ++ (wT aT (aS 0) (aH 0) (aE 0) (aX 0) ++ (wS cI cJ aS pr pu ta se qu im su tc sc rc cn so ++ ([] : va_W)))) (As := []) (rest := [.int z19.2.2.2.2.2.2.2.2]) hx hb hml hown hts (c_X4_thrusters l G cI cJ cZ cO cA e aT aS aH aE aX _ pr pu ta se qu im su tc sc rc cn so hq20) (tb_V kw213 kw214 kw215 kw1 kw216) rfl rfl (by decide +kernel) ⟨Nat.le_of_ble_eq_true rfl, Nat.le_of_ble_eq_true rfl⟩ hK hP hD hS hA hE 13 rfl rfl [13, 14, 15, 16, 17, 18, 19, 20, 21] [0, 1, 2, 3, 4, 5, 6, 7, 8, 9, 10, 11, 12] rfl rfl rfl 22 ⟨rfl, rfl⟩ (by decide +kernel) (by decide +kernel) rfl rfl hl.1 (Nat.le_of_ble_eq_true rfl) ⟨Nat.zero_le _, Nat.zero_le _⟩ dL_isSelectionSound_165 (fun H locs hP hD hS => ?_)
                          refine lv_icmp_ge (tgt := 259) hx hb dL_isSelectionSound_168 (by decide) (fun c21 => ?_) (fun c21 => ?_)
                          · replace h := (if_pos c21).symm.trans h
                            rw [← Option.some.inj h] at h19
                            exact hX19_0 (z19.1, z19.2.1, z19.2.2.1, z19.2.2.2.1, z19.2.2.2.2.1, z19.2.2.2.2.2.1, z19.2.2.2.2.2.2.1, z19.2.2.2.2.2.2.2.1) _ _ _ (lp_x h19) hP hD hS (lv_sub hl [] rfl)
                          · replace h := (if_neg c21).symm.trans h
                            refine lv_aload_n hx hb dL_isSelectionSound_171 rfl (lv_at hl 0 rfl) ?_
                            refine lv_iload_n hx hb dL_isSelectionSound_172 rfl (lv_at hl 1 rfl) ?_
                            refine lv_iload_n hx hb dL_isSelectionSound_173 rfl (lv_at hl 2 rfl) ?_
                            refine lv_iload_n hx hb dL_isSelectionSound_174 rfl (lv_at hl 3 rfl) ?_
                            refine lv_iload hx hb dL_isSelectionSound_175 (lv_at hl 5 rfl) ?_
                            obtain ⟨q22, hq22, h⟩ := bd_s h
                            refine kVi (n := 4) (C := RX4) (ws' := wE cI cJ cA aE aR q22.2.1 q22.2.2.1 q22.2.2.2.1 q22.2.2.2.2.1 q22.2.2.2.2.2.1 q22.2.2.2.2.2.2.1 q22.2.2.2.2.2.2.2.1 q22.2.2.2.2.2.2.2.2 ++ (wT aT (aS 0) (aH 0) (aE 0) (aX 0) ++ (wS cI cJ aS pr pu ta se qu im su tc sc rc cn so ++ ([] : va_W)))) (As := [.int p1, .int p2, .int p3, .int z19.2.2.2.2.2.2.2.2]) (rest := []) hx hb hml hown hts (c_X4_pulse l G cI cJ cZ cO cA e aE aR aT aS aH aX _ z19.1 z19.2.1 z19.2.2.1 z19.2.2.2.1 z19.2.2.2.2.1 z19.2.2.2.2.2.1 z19.2.2.2.2.2.2.1 z19.2.2.2.2.2.2.2.1 pr pu ta se qu im su tc sc rc cn so p1 p2 p3 z19.2.2.2.2.2.2.2.2 hq22) (tb_V kw334 kw335 kw336 kw1 kw337) rfl rfl (by decide +kernel) ⟨Nat.le_of_ble_eq_true rfl, Nat.le_of_ble_eq_true rfl⟩ hK hP hD hS hA hE 13 rfl rfl [0, 1, 2, 3, 4, 5, 6, 7, 8, 9, 10, 11, 12, 13, 14, 15, 16, 17, 18, 19, 20, 21] [] rfl rfl rfl 22 ⟨rfl, rfl⟩ (by decide +kernel) (by decide +kernel) rfl rfl hl.1 (Nat.le_of_ble_eq_true rfl) ⟨Nat.zero_le _, Nat.zero_le _⟩ dL_isSelectionSound_177 (fun H locs hP hD hS => ?_)
                            refine lv_istore (lv' := [(7, .int q22.1), (0, .ref aT), (1, .int p1), (2, .int p2), (3, .int p3), (4, .int v4_18), (6, .int z19.2.2.2.2.2.2.2.2)]) hx hb dL_isSelectionSound_180 hl (by decide) rfl (fun ls hl => ?_)
                            refine lv_iload hx hb dL_isSelectionSound_182 (lv_at hl 5 rfl) ?_
                            refine lv_iload hx hb dL_isSelectionSound_184 (lv_at hl 6 rfl) ?_
                            refine lv_ishr hx hb dL_isSelectionSound_186 ?_
                            refine lv_iconst (v := 1) hx hb dL_isSelectionSound_187 (by decide) ?_
                            refine lv_iand hx hb dL_isSelectionSound_188 ?_
                            refine lv_iconst (v := 1) hx hb dL_isSelectionSound_189 (by decide) ?_
                            have hJ24 : ∀ (un_24 : Nat → Nat → Int32) (tp_24 : Nat → Int32) (sh_24 : Nat → Int64) (de_24 : Int64) (co_24 : Int64) (ma_24 : Int32) (ru_24 : Int32) (fo_24 : Int32) (v6_24 : Int32) (v7_24 : Int32) (t0_24 : Int32) (H : Heap) (locs : List Loc) (ls : Array Slot), f_L_isSelectionSound_j198 un_24 tp_24 sh_24 de_24 co_24 ma_24 ru_24 fo_24 pr ta tc v6_24 v7_24 t0_24 = some o19 → va_P G vwCl (wE cI cJ cA aE aR un_24 tp_24 sh_24 de_24 co_24 ma_24 ru_24 fo_24 ++ (wT aT (aS 0) (aH 0) (aE 0) (aX 0) ++ (wS cI cJ aS pr pu ta se qu im su tc sc rc cn so ++ ([] : va_W)))) H → va_D A (wE cI cJ cA aE aR un_24 tp_24 sh_24 de_24 co_24 ma_24 ru_24 fo_24 ++ (wT aT (aS 0) (aH 0) (aE 0) (aX 0) ++ (wS cI cJ aS pr pu ta se qu im su tc sc rc cn so ++ ([] : va_W)))) → va_S A s.heap H locs → lv_has ls 9 [(0, .ref aT), (1, .int p1), (2, .int p2), (3, .int p3), (4, .int v4_18), (6, .int v6_24), (7, .int v7_24)] → W p l ev ({ frames := 7, cells := 0, slots := 0, locals := 160 } : Room) s m ([.ref aT, .int p1, .int p2, .int p3] : List Value).toArray below meth c H locs 0 0 (MQ below (qI G (ty5 cI cJ cZ cO cA) A (wE cI cJ cA aE aR res.2.1 res.2.2.1 res.2.2.2.1 res.2.2.2.2.1 res.2.2.2.2.2.1 res.2.2.2.2.2.2.1 res.2.2.2.2.2.2.2.1 res.2.2.2.2.2.2.2.2 ++ (wT aT (aS 0) (aH 0) (aE 0) (aX 0) ++ (wS cI cJ aS pr pu ta se qu im su tc sc rc cn so ++ ([] : va_W)))) res.1) ([.ref aT, .int p1, .int p2, .int p3] : List Value).toArray s 0 0 A) (F0 m 198 ls [.int t0_24]) := by
                              intro un_24 tp_24 sh_24 de_24 co_24 ma_24 ru_24 fo_24 v6_24 v7_24 t0_24 H locs ls h hP hD hS hl
                              unfold f_L_isSelectionSound_j198 at h
                              refine lv_istore (lv' := [(8, .int t0_24), (0, .ref aT), (1, .int p1), (2, .int p2), (3, .int p3), (4, .int v4_18), (6, .int v6_24), (7, .int v7_24)]) hx hb dL_isSelectionSound_198 hl (by decide) rfl (fun ls hl => ?_)
                              refine lv_iload hx hb dL_isSelectionSound_200 (lv_at hl 0 rfl) ?_
                              have hJ26 : ∀ (un_26 : Nat → Nat → Int32) (tp_26 : Nat → Int32) (sh_26 : Nat → Int64) (de_26 : Int64) (co_26 : Int64) (ma_26 : Int32) (ru_26 : Int32) (fo_26 : Int32) (v6_26 : Int32) (v7_26 : Int32) (v8_26 : Int32) (H : Heap) (locs : List Loc) (ls : Array Slot), f_L_isSelectionSound_j217 un_26 tp_26 sh_26 de_26 co_26 ma_26 ru_26 fo_26 pr ta tc v6_26 v7_26 v8_26 = some o19 → va_P G vwCl (wE cI cJ cA aE aR un_26 tp_26 sh_26 de_26 co_26 ma_26 ru_26 fo_26 ++ (wT aT (aS 0) (aH 0) (aE 0) (aX 0) ++ (wS cI cJ aS pr pu ta se qu im su tc sc rc cn so ++ ([] : va_W)))) H → va_D A (wE cI cJ cA aE aR un_26 tp_26 sh_26 de_26 co_26 ma_26 ru_26 fo_26 ++ (wT aT (aS 0) (aH 0) (aE 0) (aX 0) ++ (wS cI cJ aS pr pu ta se qu im su tc sc rc cn so ++ ([] : va_W)))) → va_S A s.heap H locs → lv_has ls 9 [(0, .ref aT), (1, .int p1), (2, .int p2), (3, .int p3), (4, .int v4_18), (6, .int v6_26), (7, .int v7_26), (8, .int v8_26)] → W p l ev ({ frames := 7, cells := 0, slots := 0, locals := 160 } : Room) s m ([.ref aT, .int p1, .int p2, .int p3] : List Value).toArray below meth c H locs 0 0 (MQ below (qI G (ty5 cI cJ cZ cO cA) A (wE cI cJ cA aE aR res.2.1 res.2.2.1 res.2.2.2.1 res.2.2.2.2.1 res.2.2.2.2.2.1 res.2.2.2.2.2.2.1 res.2.2.2.2.2.2.2.1 res.2.2.2.2.2.2.2.2 ++ (wT aT (aS 0) (aH 0) (aE 0) (aX 0) ++ (wS cI cJ aS pr pu ta se qu im su tc sc rc cn so ++ ([] : va_W)))) res.1) ([.ref aT, .int p1, .int p2, .int p3] : List Value).toArray s 0 0 A) (F0 m 217 ls []) := by
                                intro un_26 tp_26 sh_26 de_26 co_26 ma_26 ru_26 fo_26 v6_26 v7_26 v8_26 H locs ls h hP hD hS hl
                                unfold f_L_isSelectionSound_j217 at h
                                refine lv_iload hx hb dL_isSelectionSound_217 (lv_at hl 7 rfl) ?_
                                have hJ28 : ∀ (un_28 : Nat → Nat → Int32) (tp_28 : Nat → Int32) (sh_28 : Nat → Int64) (de_28 : Int64) (co_28 : Int64) (ma_28 : Int32) (ru_28 : Int32) (fo_28 : Int32) (v6_28 : Int32) (v7_28 : Int32) (H : Heap) (locs : List Loc) (ls : Array Slot), f_L_isSelectionSound_j227 un_28 tp_28 sh_28 de_28 co_28 ma_28 ru_28 fo_28 pr ta tc v6_28 v7_28 = some o19 → va_P G vwCl (wE cI cJ cA aE aR un_28 tp_28 sh_28 de_28 co_28 ma_28 ru_28 fo_28 ++ (wT aT (aS 0) (aH 0) (aE 0) (aX 0) ++ (wS cI cJ aS pr pu ta se qu im su tc sc rc cn so ++ ([] : va_W)))) H → va_D A (wE cI cJ cA aE aR un_28 tp_28 sh_28 de_28 co_28 ma_28 ru_28 fo_28 ++ (wT aT (aS 0) (aH 0) (aE 0) (aX 0) ++ (wS cI cJ aS pr pu ta se qu im su tc sc rc cn so ++ ([] : va_W)))) → va_S A s.heap H locs → lv_has ls 9 [(0, .ref aT), (1, .int p1), (2, .int p2), (3, .int p3), (4, .int v4_18), (6, .int v6_28), (7, .int v7_28)] → W p l ev ({ frames := 7, cells := 0, slots := 0, locals := 160 } : Room) s m ([.ref aT, .int p1, .int p2, .int p3] : List Value).toArray below meth c H locs 0 0 (MQ below (qI G (ty5 cI cJ cZ cO cA) A (wE cI cJ cA aE aR res.2.1 res.2.2.1 res.2.2.2.1 res.2.2.2.2.1 res.2.2.2.2.2.1 res.2.2.2.2.2.2.1 res.2.2.2.2.2.2.2.1 res.2.2.2.2.2.2.2.2 ++ (wT aT (aS 0) (aH 0) (aE 0) (aX 0) ++ (wS cI cJ aS pr pu ta se qu im su tc sc rc cn so ++ ([] : va_W)))) res.1) ([.ref aT, .int p1, .int p2, .int p3] : List Value).toArray s 0 0 A) (F0 m 227 ls []) := by
                                  intro un_28 tp_28 sh_28 de_28 co_28 ma_28 ru_28 fo_28 v6_28 v7_28 H locs ls h hP hD hS hl
                                  unfold f_L_isSelectionSound_j227 at h
                                  refine lv_iload hx hb dL_isSelectionSound_227 (lv_at hl 6 rfl) ?_
                                  refine lv_if_eq (tgt := 253) hx hb dL_isSelectionSound_229 (by decide) (fun c29 => ?_) (fun c29 => ?_)
                                  · replace h := (if_pos c29).symm.trans h
                                    refine lv_iinc (v := (v6_28 + 1)) (lv' := [(6, .int (v6_28 + 1)), (0, .ref aT), (1, .int p1), (2, .int p2), (3, .int p3), (4, .int v4_18), (7, .int v7_28)]) hx hb dL_isSelectionSound_253 hl (k := 5) rfl rfl (by decide) rfl (fun ls hl => ?_)
                                    refine lv_goto (tgt := 162) hx hb dL_isSelectionSound_256 (by decide) ?_
                                    rw [← Option.some.inj h] at h19
                                    exact ih19 (un_28, tp_28, sh_28, de_28, co_28, ma_28, ru_28, fo_28, (v6_28 + 1)) _ _ _ (lp_b h19) hP hD hS (lv_sub hl [1, 2, 3, 4, 5, 0] rfl)
                                  · replace h := (if_neg c29).symm.trans h
                                    refine lv_iload hx hb dL_isSelectionSound_232 (lv_at hl 6 rfl) ?_
                                    refine lv_aload_n hx hb dL_isSelectionSound_234 rfl (lv_at hl 0 rfl) ?_
                                    refine lv_iload hx hb dL_isSelectionSound_235 (lv_at hl 5 rfl) ?_
                                    refine lv_iconst (v := 5) hx hb dL_isSelectionSound_237 (by decide) ?_
                                    obtain ⟨q30, hq30, h⟩ := bd_s h
                                    refine kVi (n := 2) (C := RX4) (ws' := wE cI cJ cA aE aR un_28 tp_28 sh_28 de_28 co_28 ma_28 ru_28 fo_28 ++ (wT aT (aS 0) (aH 0) (aE 0) (aX 0) ++ (wS cI cJ aS pr pu ta se qu im su tc sc rc cn so ++ ([] : va_W)))) (As := [.int v6_28, .int 5]) (rest := [.int v7_28]) hx hb hml hown hts (c_X4_thruster l G cI cJ cZ cO cA e aT aS aH aE aX _ pr pu ta se qu im su tc sc rc cn so v6_28 5 hq30) (tb_V kw494 kw495 kw496 kw1 kw497) rfl rfl (by decide +kernel) ⟨Nat.le_of_ble_eq_true rfl, Nat.le_of_ble_eq_true rfl⟩ hK hP hD hS hA hE 13 rfl rfl [13, 14, 15, 16, 17, 18, 19, 20, 21] [0, 1, 2, 3, 4, 5, 6, 7, 8, 9, 10, 11, 12] rfl rfl rfl 22 ⟨rfl, rfl⟩ (by decide +kernel) (by decide +kernel) rfl rfl hl.1 (Nat.le_of_ble_eq_true rfl) ⟨Nat.zero_le _, Nat.zero_le _⟩ dL_isSelectionSound_238 (fun H locs hP hD hS => ?_)
                                    refine lv_icmp_lt (tgt := 251) hx hb dL_isSelectionSound_241 (by decide) (fun c31 => ?_) (fun c31 => ?_)
                                    · replace h := (if_pos c31).symm.trans h
                                      cases h
                                    · replace h := (if_neg c31).symm.trans h
                                      refine lv_iload hx hb dL_isSelectionSound_244 (lv_at hl 6 rfl) ?_
                                      refine lv_bipush (v := 20) hx hb dL_isSelectionSound_246 (by decide) ?_
                                      refine lv_icmp_le (tgt := 253) hx hb dL_isSelectionSound_248 (by decide) (fun c32 => ?_) (fun c32 => ?_)
                                      · replace h := (if_pos c32).symm.trans h
                                        refine lv_iinc (v := (v6_28 + 1)) (lv' := [(6, .int (v6_28 + 1)), (0, .ref aT), (1, .int p1), (2, .int p2), (3, .int p3), (4, .int v4_18), (7, .int v7_28)]) hx hb dL_isSelectionSound_253 hl (k := 5) rfl rfl (by decide) rfl (fun ls hl => ?_)
                                        refine lv_goto (tgt := 162) hx hb dL_isSelectionSound_256 (by decide) ?_
                                        rw [← Option.some.inj h] at h19
                                        exact ih19 (un_28, tp_28, sh_28, de_28, co_28, ma_28, ru_28, fo_28, (v6_28 + 1)) _ _ _ (lp_b h19) hP hD hS (lv_sub hl [1, 2, 3, 4, 5, 0] rfl)
                                      · replace h := (if_neg c32).symm.trans h
                                        cases h
                                refine lv_if_ne (tgt := 227) hx hb dL_isSelectionSound_219 (by decide) (fun c27 => ?_) (fun c27 => ?_)
                                · replace h := (if_neg c27).symm.trans h
                                  exact hJ28 un_26 tp_26 sh_26 de_26 co_26 ma_26 ru_26 fo_26 v6_26 v7_26 _ _ _ h hP hD hS (lv_sub hl [0, 1, 2, 3, 4, 5, 6] rfl)
                                · replace h := (if_pos c27).symm.trans h
                                  refine lv_iload hx hb dL_isSelectionSound_222 (lv_at hl 6 rfl) ?_
                                  refine lv_if_ne (tgt := 251) hx hb dL_isSelectionSound_224 (by decide) (fun c33 => ?_) (fun c33 => ?_)
                                  · replace h := (if_neg c33).symm.trans h
                                    cases h
                                  · replace h := (if_pos c33).symm.trans h
                                    exact hJ28 un_26 tp_26 sh_26 de_26 co_26 ma_26 ru_26 fo_26 v6_26 v7_26 _ _ _ h hP hD hS (lv_sub hl [0, 1, 2, 3, 4, 5, 6] rfl)
                              refine lv_if_eq (tgt := 217) hx hb dL_isSelectionSound_202 (by decide) (fun c25 => ?_) (fun c25 => ?_)
                              · replace h := (if_pos c25).symm.trans h
                                exact hJ26 un_24 tp_24 sh_24 de_24 co_24 ma_24 ru_24 fo_24 v6_24 v7_24 t0_24 _ _ _ h hP hD hS (lv_sub hl [1, 2, 3, 4, 5, 6, 7, 0] rfl)
                              · replace h := (if_neg c25).symm.trans h
                                refine lv_aload_n hx hb dL_isSelectionSound_205 rfl (lv_at hl 1 rfl) ?_
                                refine lv_iload hx hb dL_isSelectionSound_206 (lv_at hl 6 rfl) ?_
                                refine lv_bipush (v := 7) hx hb dL_isSelectionSound_208 (by decide) ?_
                                obtain ⟨q34, hq34, h⟩ := bd_s h
                                refine kVi (n := 2) (C := RX4) (ws' := wE cI cJ cA aE aR un_24 tp_24 sh_24 de_24 co_24 ma_24 ru_24 fo_24 ++ (wT aT (aS 0) (aH 0) (aE 0) (aX 0) ++ (wS cI cJ aS pr pu ta se qu im su tc sc rc cn so ++ ([] : va_W)))) (As := [.int v6_24, .int 7]) (rest := []) hx hb hml hown hts (c_X4_thruster l G cI cJ cZ cO cA e aT aS aH aE aX _ pr pu ta se qu im su tc sc rc cn so v6_24 7 hq34) (tb_V kw494 kw495 kw496 kw1 kw497) rfl rfl (by decide +kernel) ⟨Nat.le_of_ble_eq_true rfl, Nat.le_of_ble_eq_true rfl⟩ hK hP hD hS hA hE 13 rfl rfl [13, 14, 15, 16, 17, 18, 19, 20, 21] [0, 1, 2, 3, 4, 5, 6, 7, 8, 9, 10, 11, 12] rfl rfl rfl 22 ⟨rfl, rfl⟩ (by decide +kernel) (by decide +kernel) rfl rfl hl.1 (Nat.le_of_ble_eq_true rfl) ⟨Nat.zero_le _, Nat.zero_le _⟩ dL_isSelectionSound_210 (fun H locs hP hD hS => ?_)
                                refine lv_iconst (v := 1) hx hb dL_isSelectionSound_213 (by decide) ?_
                                refine lv_icmp_ne (tgt := 251) hx hb dL_isSelectionSound_214 (by decide) (fun c35 => ?_) (fun c35 => ?_)
                                · replace h := (if_neg c35).symm.trans h
                                  cases h
                                · replace h := (if_pos c35).symm.trans h
                                  exact hJ26 un_24 tp_24 sh_24 de_24 co_24 ma_24 ru_24 fo_24 v6_24 v7_24 t0_24 _ _ _ h hP hD hS (lv_sub hl [1, 2, 3, 4, 5, 6, 7, 0] rfl)
                            refine lv_icmp_ne (tgt := 197) hx hb dL_isSelectionSound_190 (by decide) (fun c23 => ?_) (fun c23 => ?_)
                            · replace h := (if_neg c23).symm.trans h
                              refine lv_iconst (v := 0) hx hb dL_isSelectionSound_197 (by decide) ?_
                              exact hJ24 q22.2.1 q22.2.2.1 q22.2.2.2.1 q22.2.2.2.2.1 q22.2.2.2.2.2.1 q22.2.2.2.2.2.2.1 q22.2.2.2.2.2.2.2.1 q22.2.2.2.2.2.2.2.2 z19.2.2.2.2.2.2.2.2 q22.1 0 _ _ _ h hP hD hS (lv_sub hl [1, 2, 3, 4, 5, 6, 0] rfl)
                            · replace h := (if_pos c23).symm.trans h
                              refine lv_iconst (v := 1) hx hb dL_isSelectionSound_193 (by decide) ?_
                              refine lv_goto (tgt := 198) hx hb dL_isSelectionSound_194 (by decide) ?_
                              exact hJ24 q22.2.1 q22.2.2.1 q22.2.2.2.1 q22.2.2.2.2.1 q22.2.2.2.2.2.1 q22.2.2.2.2.2.2.1 q22.2.2.2.2.2.2.2.1 q22.2.2.2.2.2.2.2.2 z19.2.2.2.2.2.2.2.2 q22.1 1 _ _ _ h hP hD hS (lv_sub hl [1, 2, 3, 4, 5, 6, 0] rfl)
                      exact hL19 _ (un_18, tp_18, sh_18, de_18, co_18, ma_18, ru_18, fo_18, 0) _ _ _ hq19 hP hD hS (lv_sub hl [1, 2, 3, 4, 5, 0] rfl)
                    refine lv_if_ne (tgt := 159) hx hb dL_isSelectionSound_149 (by decide) (fun c17 => ?_) (fun c17 => ?_)
                    · replace h := (if_neg c17).symm.trans h
                      exact hJ18 un_16 tp_16 sh_16 de_16 co_16 ma_16 ru_16 fo_16 v4_16 _ _ _ h hP hD hS (lv_sub hl [0, 1, 2, 3, 4] rfl)
                    · replace h := (if_pos c17).symm.trans h
                      refine lv_iload hx hb dL_isSelectionSound_152 (lv_at hl 5 rfl) ?_
                      refine lv_if_eq (tgt := 159) hx hb dL_isSelectionSound_154 (by decide) (fun c36 => ?_) (fun c36 => ?_)
                      · replace h := (if_pos c36).symm.trans h
                        exact hJ18 un_16 tp_16 sh_16 de_16 co_16 ma_16 ru_16 fo_16 v4_16 _ _ _ h hP hD hS (lv_sub hl [0, 1, 2, 3, 4] rfl)
                      · replace h := (if_neg c36).symm.trans h
                        cases h
                  refine lv_if_eq (tgt := 147) hx hb dL_isSelectionSound_135 (by decide) (fun c15 => ?_) (fun c15 => ?_)
                  · replace h := (if_pos c15).symm.trans h
                    exact hJ16 un_13 tp_13 sh_13 de_13 co_13 ma_13 ru_13 fo_13 v4_13 v5_13 _ _ _ h hP hD hS (lv_sub hl [0, 1, 2, 3, 4, 5] rfl)
                  · replace h := (if_neg c15).symm.trans h
                    refine lv_aload_n hx hb dL_isSelectionSound_138 rfl (lv_at hl 0 rfl) ?_
                    refine lv_iload hx hb dL_isSelectionSound_139 (lv_at hl 4 rfl) ?_
                    obtain ⟨q37, hq37, h⟩ := bd_s h
                    refine kVi (n := 1) (C := RX4) (ws' := wE cI cJ cA aE aR un_13 tp_13 sh_13 de_13 co_13 ma_13 ru_13 fo_13 ++ (wT aT (aS 0) (aH 0) (aE 0) (aX 0) ++ (wS cI cJ aS pr pu ta se qu im su tc sc rc cn so ++ ([] : va_W)))) (As := [.int v4_13]) (rest := []) hx hb hml hown hts (c_X4_isForbidden l G cI cJ cZ cO cA e aT aS aH aE aX _ pr pu ta se qu im su tc sc rc cn so v4_13 hq37) (tb_V kw280 kw281 kw282 kw1 kw283) rfl rfl (by decide +kernel) ⟨Nat.le_of_ble_eq_true rfl, Nat.le_of_ble_eq_true rfl⟩ hK hP hD hS hA hE 13 rfl rfl [13, 14, 15, 16, 17, 18, 19, 20, 21] [0, 1, 2, 3, 4, 5, 6, 7, 8, 9, 10, 11, 12] rfl rfl rfl 22 ⟨rfl, rfl⟩ (by decide +kernel) (by decide +kernel) rfl rfl hl.1 (Nat.le_of_ble_eq_true rfl) ⟨Nat.zero_le _, Nat.zero_le _⟩ dL_isSelectionSound_141 (fun H locs hP hD hS => ?_)
                    refine lv_if_ne (tgt := 157) hx hb dL_isSelectionSound_144 (by decide) (fun c38 => ?_) (fun c38 => ?_)
                    · replace h := (if_neg c38).symm.trans h
                      cases h
                    · replace h := (if_pos c38).symm.trans h
                      exact hJ16 un_13 tp_13 sh_13 de_13 co_13 ma_13 ru_13 fo_13 v4_13 v5_13 _ _ _ h hP hD hS (lv_sub hl [0, 1, 2, 3, 4, 5] rfl)
                · replace h := (if_neg c14).symm.trans h
                  cases h
              have hJ39 : ∀ (un_39 : Nat → Nat → Int32) (tp_39 : Nat → Int32) (sh_39 : Nat → Int64) (de_39 : Int64) (co_39 : Int64) (ma_39 : Int32) (ru_39 : Int32) (fo_39 : Int32) (v4_39 : Int32) (v5_39 : Int32) (t0_39 : Int32) (H : Heap) (locs : List Loc) (ls : Array Slot), f_L_isSelectionSound_j127 un_39 tp_39 sh_39 de_39 co_39 ma_39 ru_39 fo_39 pr ta se tc sc p1 p2 p3 v4_39 v5_39 t0_39 = some res → va_P G vwCl (wE cI cJ cA aE aR un_39 tp_39 sh_39 de_39 co_39 ma_39 ru_39 fo_39 ++ (wT aT (aS 0) (aH 0) (aE 0) (aX 0) ++ (wS cI cJ aS pr pu ta se qu im su tc sc rc cn so ++ ([] : va_W)))) H → va_D A (wE cI cJ cA aE aR un_39 tp_39 sh_39 de_39 co_39 ma_39 ru_39 fo_39 ++ (wT aT (aS 0) (aH 0) (aE 0) (aX 0) ++ (wS cI cJ aS pr pu ta se qu im su tc sc rc cn so ++ ([] : va_W)))) → va_S A s.heap H locs → lv_has ls 9 [(0, .ref aT), (1, .int p1), (2, .int p2), (3, .int p3), (4, .int v4_39), (5, .int v5_39)] → W p l ev ({ frames := 7, cells := 0, slots := 0, locals := 160 } : Room) s m ([.ref aT, .int p1, .int p2, .int p3] : List Value).toArray below meth c H locs 0 0 (MQ below (qI G (ty5 cI cJ cZ cO cA) A (wE cI cJ cA aE aR res.2.1 res.2.2.1 res.2.2.2.1 res.2.2.2.2.1 res.2.2.2.2.2.1 res.2.2.2.2.2.2.1 res.2.2.2.2.2.2.2.1 res.2.2.2.2.2.2.2.2 ++ (wT aT (aS 0) (aH 0) (aE 0) (aX 0) ++ (wS cI cJ aS pr pu ta se qu im su tc sc rc cn so ++ ([] : va_W)))) res.1) ([.ref aT, .int p1, .int p2, .int p3] : List Value).toArray s 0 0 A) (F0 m 127 ls [.int t0_39]) := by
                intro un_39 tp_39 sh_39 de_39 co_39 ma_39 ru_39 fo_39 v4_39 v5_39 t0_39 H locs ls h hP hD hS hl
                unfold f_L_isSelectionSound_j127 at h
                refine lv_iconst (v := 0) hx hb dL_isSelectionSound_127 (by decide) ?_
                exact hJ13 un_39 tp_39 sh_39 de_39 co_39 ma_39 ru_39 fo_39 v4_39 v5_39 0 t0_39 _ _ _ h hP hD hS (lv_sub hl [0, 1, 2, 3, 4, 5] rfl)
              refine lv_if_ne (tgt := 127) hx hb dL_isSelectionSound_112 (by decide) (fun c12 => ?_) (fun c12 => ?_)
              · replace h := (if_neg c12).symm.trans h
                exact hJ39 un_11 tp_11 sh_11 de_11 co_11 ma_11 ru_11 fo_11 v4_11 v5_11 t0_11 _ _ _ h hP hD hS (lv_sub hl [0, 1, 2, 3, 4, 5] rfl)
              · replace h := (if_pos c12).symm.trans h
                refine lv_iload_n hx hb dL_isSelectionSound_115 rfl (lv_at hl 2 rfl) ?_
                refine lv_if_ne (tgt := 127) hx hb dL_isSelectionSound_116 (by decide) (fun c40 => ?_) (fun c40 => ?_)
                · replace h := (if_neg c40).symm.trans h
                  exact hJ39 un_11 tp_11 sh_11 de_11 co_11 ma_11 ru_11 fo_11 v4_11 v5_11 t0_11 _ _ _ h hP hD hS (lv_sub hl [0, 1, 2, 3, 4, 5] rfl)
                · replace h := (if_pos c40).symm.trans h
                  refine lv_iload_n hx hb dL_isSelectionSound_119 rfl (lv_at hl 3 rfl) ?_
                  refine lv_if_ne (tgt := 127) hx hb dL_isSelectionSound_120 (by decide) (fun c41 => ?_) (fun c41 => ?_)
                  · replace h := (if_neg c41).symm.trans h
                    exact hJ39 un_11 tp_11 sh_11 de_11 co_11 ma_11 ru_11 fo_11 v4_11 v5_11 t0_11 _ _ _ h hP hD hS (lv_sub hl [0, 1, 2, 3, 4, 5] rfl)
                  · replace h := (if_pos c41).symm.trans h
                    refine lv_iconst (v := 1) hx hb dL_isSelectionSound_123 (by decide) ?_
                    refine lv_goto (tgt := 128) hx hb dL_isSelectionSound_124 (by decide) ?_
                    exact hJ13 un_11 tp_11 sh_11 de_11 co_11 ma_11 ru_11 fo_11 v4_11 v5_11 1 t0_11 _ _ _ h hP hD hS (lv_sub hl [0, 1, 2, 3, 4, 5] rfl)
            refine lv_if_ne (tgt := 110) hx hb dL_isSelectionSound_103 (by decide) (fun c10 => ?_) (fun c10 => ?_)
            · replace h := (if_neg c10).symm.trans h
              refine lv_iconst (v := 0) hx hb dL_isSelectionSound_110 (by decide) ?_
              exact hJ11 q2.2.1 q2.2.2.1 q2.2.2.2.1 q2.2.2.2.2.1 q2.2.2.2.2.2.1 q2.2.2.2.2.2.2.1 q2.2.2.2.2.2.2.2.1 q2.2.2.2.2.2.2.2.2 q1.1 q2.1 0 _ _ _ h hP hD hS (lv_sub hl [2, 3, 4, 5, 1, 0] rfl)
            · replace h := (if_pos c10).symm.trans h
              refine lv_iconst (v := 1) hx hb dL_isSelectionSound_106 (by decide) ?_
              refine lv_goto (tgt := 111) hx hb dL_isSelectionSound_107 (by decide) ?_
              exact hJ11 q2.2.1 q2.2.2.1 q2.2.2.2.1 q2.2.2.2.2.1 q2.2.2.2.2.2.1 q2.2.2.2.2.2.2.1 q2.2.2.2.2.2.2.2.1 q2.2.2.2.2.2.2.2.2 q1.1 q2.1 1 _ _ _ h hP hD hS (lv_sub hl [2, 3, 4, 5, 1, 0] rfl)
  · replace h := (if_pos c3).symm.trans h
    refine lv_iload hx hb dL_isSelectionSound_25 (lv_at hl 0 rfl) ?_
    refine lv_ldc (v := (-2000000000)) hx hb hown (hts _ kw489) dL_isSelectionSound_27 ?_
    refine lv_icmp_ne (tgt := 68) hx hb dL_isSelectionSound_29 (by decide) (fun c42 => ?_) (fun c42 => ?_)
    · replace h := (if_neg c42).symm.trans h
      refine lv_iconst (v := 0) hx hb dL_isSelectionSound_68 (by decide) ?_
      cases h
    · replace h := (if_pos c42).symm.trans h
      refine lv_aload_n hx hb dL_isSelectionSound_32 rfl (lv_at hl 2 rfl) ?_
      obtain ⟨q43, hq43, h⟩ := bd_s h
      refine kVi (n := 0) (C := RX4) (ws' := wE cI cJ cA aE aR q2.2.1 q2.2.2.1 q2.2.2.2.1 q2.2.2.2.2.1 q2.2.2.2.2.2.1 q2.2.2.2.2.2.2.1 q2.2.2.2.2.2.2.2.1 q2.2.2.2.2.2.2.2.2 ++ (wT aT (aS 0) (aH 0) (aE 0) (aX 0) ++ (wS cI cJ aS pr pu ta se qu im su tc sc rc cn so ++ ([] : va_W)))) (As := []) (rest := []) hx hb hml hown hts (c_X4_thrusters l G cI cJ cZ cO cA e aT aS aH aE aX _ pr pu ta se qu im su tc sc rc cn so hq43) (tb_V kw213 kw214 kw215 kw1 kw216) rfl rfl (by decide +kernel) ⟨Nat.le_of_ble_eq_true rfl, Nat.le_of_ble_eq_true rfl⟩ hK hP hD hS hA hE 13 rfl rfl [13, 14, 15, 16, 17, 18, 19, 20, 21] [0, 1, 2, 3, 4, 5, 6, 7, 8, 9, 10, 11, 12] rfl rfl rfl 22 ⟨rfl, rfl⟩ (by decide +kernel) (by decide +kernel) rfl rfl hl.1 (Nat.le_of_ble_eq_true rfl) ⟨Nat.zero_le _, Nat.zero_le _⟩ dL_isSelectionSound_33 (fun H locs hP hD hS => ?_)
      have hJ45 : ∀ (un_45 : Nat → Nat → Int32) (tp_45 : Nat → Int32) (sh_45 : Nat → Int64) (de_45 : Int64) (co_45 : Int64) (ma_45 : Int32) (ru_45 : Int32) (fo_45 : Int32) (H : Heap) (locs : List Loc) (ls : Array Slot), f_L_isSelectionSound_j52 un_45 tp_45 sh_45 de_45 co_45 ma_45 ru_45 fo_45 p1 p2 p3 = some res → va_P G vwCl (wE cI cJ cA aE aR un_45 tp_45 sh_45 de_45 co_45 ma_45 ru_45 fo_45 ++ (wT aT (aS 0) (aH 0) (aE 0) (aX 0) ++ (wS cI cJ aS pr pu ta se qu im su tc sc rc cn so ++ ([] : va_W)))) H → va_D A (wE cI cJ cA aE aR un_45 tp_45 sh_45 de_45 co_45 ma_45 ru_45 fo_45 ++ (wT aT (aS 0) (aH 0) (aE 0) (aX 0) ++ (wS cI cJ aS pr pu ta se qu im su tc sc rc cn so ++ ([] : va_W)))) → va_S A s.heap H locs → lv_has ls 9 [(1, .int p1), (2, .int p2), (3, .int p3)] → W p l ev ({ frames := 7, cells := 0, slots := 0, locals := 160 } : Room) s m ([.ref aT, .int p1, .int p2, .int p3] : List Value).toArray below meth c H locs 0 0 (MQ below (qI G (ty5 cI cJ cZ cO cA) A (wE cI cJ cA aE aR res.2.1 res.2.2.1 res.2.2.2.1 res.2.2.2.2.1 res.2.2.2.2.2.1 res.2.2.2.2.2.2.1 res.2.2.2.2.2.2.2.1 res.2.2.2.2.2.2.2.2 ++ (wT aT (aS 0) (aH 0) (aE 0) (aX 0) ++ (wS cI cJ aS pr pu ta se qu im su tc sc rc cn so ++ ([] : va_W)))) res.1) ([.ref aT, .int p1, .int p2, .int p3] : List Value).toArray s 0 0 A) (F0 m 52 ls []) := by
        intro un_45 tp_45 sh_45 de_45 co_45 ma_45 ru_45 fo_45 H locs ls h hP hD hS hl
        unfold f_L_isSelectionSound_j52 at h
        refine lv_iload_n hx hb dL_isSelectionSound_52 rfl (lv_at hl 0 rfl) ?_
        refine lv_if_ne (tgt := 64) hx hb dL_isSelectionSound_53 (by decide) (fun c46 => ?_) (fun c46 => ?_)
        · replace h := (if_neg c46).symm.trans h
          refine lv_iconst (v := 1) hx hb dL_isSelectionSound_64 (by decide) ?_
          refine lv_goto (tgt := 69) hx hb dL_isSelectionSound_65 (by decide) ?_
          rw [← Option.some.inj h]
          exact kri hx hb hr hlk rfl rfl hP hD hS hK dL_isSelectionSound_69
        · replace h := (if_pos c46).symm.trans h
          refine lv_iload_n hx hb dL_isSelectionSound_56 rfl (lv_at hl 1 rfl) ?_
          refine lv_if_ne (tgt := 64) hx hb dL_isSelectionSound_57 (by decide) (fun c47 => ?_) (fun c47 => ?_)
          · replace h := (if_neg c47).symm.trans h
            refine lv_iconst (v := 1) hx hb dL_isSelectionSound_64 (by decide) ?_
            refine lv_goto (tgt := 69) hx hb dL_isSelectionSound_65 (by decide) ?_
            rw [← Option.some.inj h]
            exact kri hx hb hr hlk rfl rfl hP hD hS hK dL_isSelectionSound_69
          · replace h := (if_pos c47).symm.trans h
            refine lv_iload_n hx hb dL_isSelectionSound_60 rfl (lv_at hl 2 rfl) ?_
            refine lv_if_eq (tgt := 68) hx hb dL_isSelectionSound_61 (by decide) (fun c48 => ?_) (fun c48 => ?_)
            · replace h := (if_pos c48).symm.trans h
              refine lv_iconst (v := 0) hx hb dL_isSelectionSound_68 (by decide) ?_
              cases h
            · replace h := (if_neg c48).symm.trans h
              refine lv_iconst (v := 1) hx hb dL_isSelectionSound_64 (by decide) ?_
              refine lv_goto (tgt := 69) hx hb dL_isSelectionSound_65 (by decide) ?_
              rw [← Option.some.inj h]
              exact kri hx hb hr hlk rfl rfl hP hD hS hK dL_isSelectionSound_69
      refine lv_if_eq (tgt := 52) hx hb dL_isSelectionSound_36 (by decide) (fun c44 => ?_) (fun c44 => ?_)
      · replace h := (if_pos c44).symm.trans h
        exact hJ45 q2.2.1 q2.2.2.1 q2.2.2.2.1 q2.2.2.2.2.1 q2.2.2.2.2.2.1 q2.2.2.2.2.2.2.1 q2.2.2.2.2.2.2.2.1 q2.2.2.2.2.2.2.2.2 _ _ _ h hP hD hS (lv_sub hl [3, 4, 5] rfl)
      · replace h := (if_neg c44).symm.trans h
        refine lv_aload_n hx hb dL_isSelectionSound_39 rfl (lv_at hl 2 rfl) ?_
        refine lv_iload_n hx hb dL_isSelectionSound_40 rfl (lv_at hl 3 rfl) ?_
        refine lv_iload_n hx hb dL_isSelectionSound_41 rfl (lv_at hl 4 rfl) ?_
        refine lv_iload_n hx hb dL_isSelectionSound_42 rfl (lv_at hl 5 rfl) ?_
        refine lv_iconst (v := 0) hx hb dL_isSelectionSound_43 (by decide) ?_
        obtain ⟨q49, hq49, h⟩ := bd_s h
        refine kVi (n := 4) (C := RX4) (ws' := wE cI cJ cA aE aR q49.2.1 q49.2.2.1 q49.2.2.2.1 q49.2.2.2.2.1 q49.2.2.2.2.2.1 q49.2.2.2.2.2.2.1 q49.2.2.2.2.2.2.2.1 q49.2.2.2.2.2.2.2.2 ++ (wT aT (aS 0) (aH 0) (aE 0) (aX 0) ++ (wS cI cJ aS pr pu ta se qu im su tc sc rc cn so ++ ([] : va_W)))) (As := [.int p1, .int p2, .int p3, .int 0]) (rest := []) hx hb hml hown hts (c_X4_pulse l G cI cJ cZ cO cA e aE aR aT aS aH aX _ q2.2.1 q2.2.2.1 q2.2.2.2.1 q2.2.2.2.2.1 q2.2.2.2.2.2.1 q2.2.2.2.2.2.2.1 q2.2.2.2.2.2.2.2.1 q2.2.2.2.2.2.2.2.2 pr pu ta se qu im su tc sc rc cn so p1 p2 p3 0 hq49) (tb_V kw334 kw335 kw336 kw1 kw337) rfl rfl (by decide +kernel) ⟨Nat.le_of_ble_eq_true rfl, Nat.le_of_ble_eq_true rfl⟩ hK hP hD hS hA hE 13 rfl rfl [0, 1, 2, 3, 4, 5, 6, 7, 8, 9, 10, 11, 12, 13, 14, 15, 16, 17, 18, 19, 20, 21] [] rfl rfl rfl 22 ⟨rfl, rfl⟩ (by decide +kernel) (by decide +kernel) rfl rfl hl.1 (Nat.le_of_ble_eq_true rfl) ⟨Nat.zero_le _, Nat.zero_le _⟩ dL_isSelectionSound_44 (fun H locs hP hD hS => ?_)
        refine lv_ldc (v := (-2000000000)) hx hb hown (hts _ kw489) dL_isSelectionSound_47 ?_
        refine lv_icmp_ne (tgt := 68) hx hb dL_isSelectionSound_49 (by decide) (fun c50 => ?_) (fun c50 => ?_)
        · replace h := (if_neg c50).symm.trans h
          refine lv_iconst (v := 0) hx hb dL_isSelectionSound_68 (by decide) ?_
          cases h
        · replace h := (if_pos c50).symm.trans h
          exact hJ45 q49.2.1 q49.2.2.1 q49.2.2.2.1 q49.2.2.2.2.1 q49.2.2.2.2.2.1 q49.2.2.2.2.2.2.1 q49.2.2.2.2.2.2.2.1 q49.2.2.2.2.2.2.2.2 _ _ _ h hP hD hS (lv_sub hl [3, 4, 5] rfl)

/-! L_changes -/
def f_L_changes_j153 (pr : Nat → Int32) (pu : Nat → Int32) (ta : Nat → Int32) (se : Nat → Int32) (qu : Nat → Int32) (im : Nat → Int32) (su : Nat → Int64) (tc : Int32) (sc : Int32) (rc : Int32) (cn : Int32) (so : Int32) (hs : Nat → SV) (ol : Int32) (ct : Int32) (t0 : Int32) (t1 : Int32) : Option (Int32 × (Nat → Int32) × (Nat → Int32) × (Nat → Int32) × (Nat → Int32) × (Nat → Int32) × Int32 × Int32 × Int32 × (Nat → SV) × Int32 × Int32) :=
  (f_X4_setState pu ta se qu im su tc sc rc cn so pr hs ol ct t1 t0).bind (fun q18 => some (q18.1, q18.2.1, pu, ta, se, qu, tc, sc, rc, q18.2.2.1, q18.2.2.2.1, q18.2.2.2.2))
def f_L_changes_j221 (pr : Nat → Int32) (pu : Nat → Int32) (ta : Nat → Int32) (se : Nat → Int32) (qu : Nat → Int32) (im : Nat → Int32) (su : Nat → Int64) (tc : Int32) (sc : Int32) (rc : Int32) (cn : Int32) (so : Int32) (hs : Nat → SV) (ol : Int32) (ct : Int32) (t0 : Int32) (t1 : Int32) : Option (Int32 × (Nat → Int32) × (Nat → Int32) × (Nat → Int32) × (Nat → Int32) × (Nat → Int32) × Int32 × Int32 × Int32 × (Nat → SV) × Int32 × Int32) :=
  (f_X4_refuel pr pu se qu im su tc sc rc cn so ta hs ol ct t1 t0).bind (fun q29 => some (q29.1, pr, pu, q29.2.1, se, qu, tc, sc, rc, q29.2.2.1, q29.2.2.2.1, q29.2.2.2.2))
def f_L_changes (im : Nat → Int32) (su : Nat → Int64) (cn : Int32) (so : Int32) (pr : Nat → Int32) (pu : Nat → Int32) (ta : Nat → Int32) (se : Nat → Int32) (qu : Nat → Int32) (tc : Int32) (sc : Int32) (rc : Int32) (hs : Nat → SV) (ol : Int32) (ct : Int32) (p1 : Int32) : Option (Int32 × (Nat → Int32) × (Nat → Int32) × (Nat → Int32) × (Nat → Int32) × (Nat → Int32) × Int32 × Int32 × Int32 × (Nat → SV) × Int32 × Int32) :=
  (f_L_low (p1 >>> (4 &&& 31)) 8).bind (fun q1 => (f_L_low p1 11).bind (fun q2 => if q2 = 0 then ((f_L_low (p1 >>> (4 &&& 31)) 21).bind (fun q4 => (f_L_low (p1 >>> (9 &&& 31)) 21).bind (fun q5 => (f_L_low (p1 >>> (16 &&& 31)) 10).bind (fun q6 => (f_L_low (p1 >>> (21 &&& 31)) 10).bind (fun q7 => (f_X4_addThruster ta se qu im su sc rc cn so pr pu tc hs ol ct (q4 - 10) (q5 - 10) ((p1 >>> (14 &&& 31)) &&& 3) (1 + q6) ((p1 >>> (20 &&& 31)) &&& 1) (1 + q7)).bind (fun q8 => some (q8.1, q8.2.1, q8.2.2.1, ta, se, qu, q8.2.2.2.1, sc, rc, q8.2.2.2.2.1, q8.2.2.2.2.2.1, q8.2.2.2.2.2.2))))))) else (if q2 = 1 then ((f_L_low (p1 >>> (4 &&& 31)) 21).bind (fun q10 => (f_L_low (p1 >>> (9 &&& 31)) 21).bind (fun q11 => (f_L_low (p1 >>> (16 &&& 31)) 10).bind (fun q12 => (f_L_low (p1 >>> (21 &&& 31)) 10).bind (fun q13 => (f_X4_addThruster ta se qu im su sc rc cn so pr pu tc hs ol ct (q10 - 10) (q11 - 10) ((p1 >>> (14 &&& 31)) &&& 3) (1 + q12) ((p1 >>> (20 &&& 31)) &&& 1) (1 + q13)).bind (fun q14 => some (q14.1, q14.2.1, q14.2.2.1, ta, se, qu, q14.2.2.2.1, sc, rc, q14.2.2.2.2.1, q14.2.2.2.2.2.1, q14.2.2.2.2.2.2))))))) else (if q2 = 2 then (if ((p1 >>> (7 &&& 31)) &&& 3) = 3 then (f_L_changes_j153 pr pu ta se qu im su tc sc rc cn so hs ol ct 2 q1) else (if ((p1 >>> (7 &&& 31)) &&& 3) = 2 then (f_L_changes_j153 pr pu ta se qu im su tc sc rc cn so hs ol ct 1 q1) else (f_L_changes_j153 pr pu ta se qu im su tc sc rc cn so hs ol ct 0 q1))) else (if q2 = 3 then ((f_L_low (p1 >>> (4 &&& 31)) 256).bind (fun q21 => (f_X4_forbid pr pu ta qu im su tc rc cn so se sc hs ol ct q21).bind (fun q22 => some (q22.1, pr, pu, ta, q22.2.1, qu, tc, q22.2.2.1, rc, q22.2.2.2.1, q22.2.2.2.2.1, q22.2.2.2.2.2)))) else (if q2 = 4 then ((f_L_low (p1 >>> (4 &&& 31)) 256).bind (fun q24 => (f_X4_allow pr pu ta qu im su tc rc cn so se sc hs ol ct q24).bind (fun q25 => some (q25.1, pr, pu, ta, q25.2.1, qu, tc, q25.2.2.1, rc, q25.2.2.2.1, q25.2.2.2.2.1, q25.2.2.2.2.2)))) else (if q2 = 5 then (if ((p1 >>> (5 &&& 31)) &&& 3) = 0 then ((f_L_low (p1 >>> (7 &&& 31)) 1500).bind (fun q31 => f_L_changes_j221 pr pu ta se qu im su tc sc rc cn so hs ol ct q31 ((p1 >>> (4 &&& 31)) &&& 1))) else ((f_L_low (p1 >>> (7 &&& 31)) 100001).bind (fun q30 => f_L_changes_j221 pr pu ta se qu im su tc sc rc cn so hs ol ct q30 ((p1 >>> (4 &&& 31)) &&& 1)))) else (if q2 = 6 then ((f_L_low (p1 >>> (4 &&& 31)) 11).bind (fun q33 => (f_X4_cancel pr pu ta se im su tc sc cn so qu rc hs ol ct q33).bind (fun q34 => some (q34.1, pr, pu, ta, se, q34.2.1, tc, sc, q34.2.2.1, q34.2.2.2.1, q34.2.2.2.2.1, q34.2.2.2.2.2)))) else (if q2 = 7 then ((f_L_low (p1 >>> (4 &&& 31)) 600).bind (fun q36 => (f_L_low (p1 >>> (9 &&& 31)) 600).bind (fun q37 => (f_L_low (p1 >>> (14 &&& 31)) 1200).bind (fun q38 => (f_X4_urge pr pu ta se im su tc sc cn so qu rc hs ol ct (q36 - 300) (q37 - 300) (q38 - 600)).bind (fun q39 => some (q39.1, pr, pu, ta, se, q39.2.1, tc, sc, q39.2.2.1, q39.2.2.2.1, q39.2.2.2.2.1, q39.2.2.2.2.2)))))) else ((f_L_low (p1 >>> (4 &&& 31)) 600).bind (fun q41 => (f_L_low (p1 >>> (9 &&& 31)) 600).bind (fun q42 => (f_L_low (p1 >>> (14 &&& 31)) 1200).bind (fun q43 => (f_X4_request pr pu ta se im su tc sc cn so qu rc hs ol ct (q41 - 300) (q42 - 300) (q43 - 600)).bind (fun q44 => some (q44.1, pr, pu, ta, se, q44.2.1, tc, sc, q44.2.2.1, q44.2.2.2.1, q44.2.2.2.2.1, q44.2.2.2.2.2)))))))))))))))

set_option maxHeartbeats 4000000 in
set_option maxRecDepth 100000 in
theorem c_L_changes (l : Launch) (G : va_G) (cI cJ cZ cO cA : ClassId) (e : Nat × Nat) (aT : Nat) (aS : Nat → Nat) (aH : Nat → Nat) (aE : Nat → Nat) (aX : Nat → Nat) (aK : Nat → Nat → Nat) (sz : Nat) (pr : Nat → Int32) (pu : Nat → Int32) (ta : Nat → Int32) (se : Nat → Int32) (qu : Nat → Int32) (im : Nat → Int32) (su : Nat → Int64) (tc : Int32) (sc : Int32) (rc : Int32) (cn : Int32) (so : Int32) (hs : Nat → SV) (ol : Int32) (ct : Int32) (p1 : Int32) {res : Int32 × (Nat → Int32) × (Nat → Int32) × (Nat → Int32) × (Nat → Int32) × (Nat → Int32) × Int32 × Int32 × Int32 × (Nat → SV) × Int32 × Int32} (hf : f_L_changes im su cn so pr pu ta se qu tc sc rc hs ol ct p1 = some res) : MetI l yL_changes cL_changes 3 .int ({ frames := 5, cells := 0, slots := 0, locals := 129 } : Room) [.ref aT, .int p1] G (ty5 cI cJ cZ cO cA) e (wT aT (aS 0) (aH 0) (aE 0) (aX 0) ++ (wS cI cJ aS pr pu ta se qu im su tc sc rc cn so ++ (wH cI cJ cO aH aK hs ol ct ++ ([] : va_W)))) (wT aT (aS 0) (aH 0) (aE 0) (aX 0) ++ (wS cI cJ aS res.2.1 res.2.2.1 res.2.2.2.1 res.2.2.2.2.1 res.2.2.2.2.2.1 im su res.2.2.2.2.2.2.1 res.2.2.2.2.2.2.2.1 res.2.2.2.2.2.2.2.2.1 cn so ++ (wH cI cJ cO aH aK res.2.2.2.2.2.2.2.2.2.1 res.2.2.2.2.2.2.2.2.2.2.1 res.2.2.2.2.2.2.2.2.2.2.2 ++ ([] : va_W)))) sz res.1 := by
  refine g_body (QQ := fun A => (qI G (ty5 cI cJ cZ cO cA) A (wT aT (aS 0) (aH 0) (aE 0) (aX 0) ++ (wS cI cJ aS res.2.1 res.2.2.1 res.2.2.2.1 res.2.2.2.2.1 res.2.2.2.2.2.1 im su res.2.2.2.2.2.2.1 res.2.2.2.2.2.2.2.1 res.2.2.2.2.2.2.2.2.1 cn so ++ (wH cI cJ cO aH aK res.2.2.2.2.2.2.2.2.2.1 res.2.2.2.2.2.2.2.2.2.2.1 res.2.2.2.2.2.2.2.2.2.2.2 ++ ([] : va_W)))) res.1)) (own := RL) (by decide) rfl (Nat.le_of_ble_eq_true rfl) ?_
  intro p ev s m below meth c A ls hx hb hr hml hown hts hlk hA hP hD hS hK hE hl
  have hl : lv_has ls 3 [(0, .ref aT), (1, .int p1)] := hl
  show W p l ev ({ frames := 5, cells := 0, slots := 0, locals := 129 } : Room) s m ([.ref aT, .int p1] : List Value).toArray below meth c s.heap [] 0 0 (MQ below (qI G (ty5 cI cJ cZ cO cA) A (wT aT (aS 0) (aH 0) (aE 0) (aX 0) ++ (wS cI cJ aS res.2.1 res.2.2.1 res.2.2.2.1 res.2.2.2.2.1 res.2.2.2.2.2.1 im su res.2.2.2.2.2.2.1 res.2.2.2.2.2.2.2.1 res.2.2.2.2.2.2.2.2.1 cn so ++ (wH cI cJ cO aH aK res.2.2.2.2.2.2.2.2.2.1 res.2.2.2.2.2.2.2.2.2.2.1 res.2.2.2.2.2.2.2.2.2.2.2 ++ ([] : va_W)))) res.1) ([.ref aT, .int p1] : List Value).toArray s 0 0 A) (F0 m 0 ls [])
  have h := hf
  unfold f_L_changes at h
  refine lv_iload_n hx hb dL_changes_0 rfl (lv_at hl 1 rfl) ?_
  refine lv_iconst (v := 4) hx hb dL_changes_1 (by decide) ?_
  refine lv_ishr hx hb dL_changes_2 ?_
  refine lv_bipush (v := 8) hx hb dL_changes_3 (by decide) ?_
  obtain ⟨q1, hq1, h⟩ := bd_s h
  refine kSi (n := 2) (As := [.int (p1 >>> (4 &&& 31)), .int 8]) (rest := []) hx hb hml hown hts (c_L_low l G cI cJ cZ cO cA e _ (p1 >>> (4 &&& 31)) 8 hq1) (tb_S kw473 kw474 kw0 kw475) rfl rfl (by decide +kernel) ⟨Nat.le_of_ble_eq_true rfl, Nat.le_of_ble_eq_true rfl⟩ hK hP hD hS hA hE rfl rfl hl.1 (Nat.le_of_ble_eq_true rfl) ⟨Nat.zero_le _, Nat.zero_le _⟩ dL_changes_5 (fun H locs hP hD hS => ?_)
  refine lv_istore_n (lv' := [(2, .int q1), (0, .ref aT), (1, .int p1)]) hx hb dL_changes_8 rfl hl (by decide) rfl (fun ls hl => ?_)
  refine lv_iload_n hx hb dL_changes_9 rfl (lv_at hl 2 rfl) ?_
  refine lv_bipush (v := 11) hx hb dL_changes_10 (by decide) ?_
  obtain ⟨q2, hq2, h⟩ := bd_s h
  refine kSi (n := 2) (As := [.int p1, .int 11]) (rest := []) hx hb hml hown hts (c_L_low l G cI cJ cZ cO cA e _ p1 11 hq2) (tb_S kw473 kw474 kw0 kw475) rfl rfl (by decide +kernel) ⟨Nat.le_of_ble_eq_true rfl, Nat.le_of_ble_eq_true rfl⟩ hK hP hD hS hA hE rfl rfl hl.1 (Nat.le_of_ble_eq_true rfl) ⟨Nat.zero_le _, Nat.zero_le _⟩ dL_changes_12 (fun H locs hP hD hS => ?_)
  by_cases c9 : q2 = 0
  · replace h := (if_pos c9).symm.trans h
    refine W.eq (g2 := F0 m 15 ls [.int 0]) (by rw [c9]) ?_
    refine lv_tableIn (tgt := 60) (off := 45) hx hb dL_changes_15 (by decide) (by decide) (by decide) (by decide) ?_
    refine lv_aload_n hx hb dL_changes_60 rfl (lv_at hl 1 rfl) ?_
    refine lv_iload_n hx hb dL_changes_61 rfl (lv_at hl 2 rfl) ?_
    refine lv_iconst (v := 4) hx hb dL_changes_62 (by decide) ?_
    refine lv_ishr hx hb dL_changes_63 ?_
    refine lv_bipush (v := 21) hx hb dL_changes_64 (by decide) ?_
    obtain ⟨q4, hq4, h⟩ := bd_s h
    refine kSi (n := 2) (As := [.int (p1 >>> (4 &&& 31)), .int 21]) (rest := [.ref aT]) hx hb hml hown hts (c_L_low l G cI cJ cZ cO cA e _ (p1 >>> (4 &&& 31)) 21 hq4) (tb_S kw473 kw474 kw0 kw475) rfl rfl (by decide +kernel) ⟨Nat.le_of_ble_eq_true rfl, Nat.le_of_ble_eq_true rfl⟩ hK hP hD hS hA hE rfl rfl hl.1 (Nat.le_of_ble_eq_true rfl) ⟨Nat.zero_le _, Nat.zero_le _⟩ dL_changes_66 (fun H locs hP hD hS => ?_)
    refine lv_bipush (v := 10) hx hb dL_changes_69 (by decide) ?_
    refine lv_isub hx hb dL_changes_71 ?_
    refine lv_iload_n hx hb dL_changes_72 rfl (lv_at hl 2 rfl) ?_
    refine lv_bipush (v := 9) hx hb dL_changes_73 (by decide) ?_
    refine lv_ishr hx hb dL_changes_75 ?_
    refine lv_bipush (v := 21) hx hb dL_changes_76 (by decide) ?_
    obtain ⟨q5, hq5, h⟩ := bd_s h
    refine kSi (n := 2) (As := [.int (p1 >>> (9 &&& 31)), .int 21]) (rest := [.int (q4 - 10), .ref aT]) hx hb hml hown hts (c_L_low l G cI cJ cZ cO cA e _ (p1 >>> (9 &&& 31)) 21 hq5) (tb_S kw473 kw474 kw0 kw475) rfl rfl (by decide +kernel) ⟨Nat.le_of_ble_eq_true rfl, Nat.le_of_ble_eq_true rfl⟩ hK hP hD hS hA hE rfl rfl hl.1 (Nat.le_of_ble_eq_true rfl) ⟨Nat.zero_le _, Nat.zero_le _⟩ dL_changes_78 (fun H locs hP hD hS => ?_)
    refine lv_bipush (v := 10) hx hb dL_changes_81 (by decide) ?_
    refine lv_isub hx hb dL_changes_83 ?_
    refine lv_iload_n hx hb dL_changes_84 rfl (lv_at hl 2 rfl) ?_
    refine lv_bipush (v := 14) hx hb dL_changes_85 (by decide) ?_
    refine lv_ishr hx hb dL_changes_87 ?_
    refine lv_iconst (v := 3) hx hb dL_changes_88 (by decide) ?_
    refine lv_iand hx hb dL_changes_89 ?_
    refine lv_iconst (v := 1) hx hb dL_changes_90 (by decide) ?_
    refine lv_iload_n hx hb dL_changes_91 rfl (lv_at hl 2 rfl) ?_
    refine lv_bipush (v := 16) hx hb dL_changes_92 (by decide) ?_
    refine lv_ishr hx hb dL_changes_94 ?_
    refine lv_bipush (v := 10) hx hb dL_changes_95 (by decide) ?_
    obtain ⟨q6, hq6, h⟩ := bd_s h
    refine kSi (n := 2) (As := [.int (p1 >>> (16 &&& 31)), .int 10]) (rest := [.int 1, .int ((p1 >>> (14 &&& 31)) &&& 3), .int (q5 - 10), .int (q4 - 10), .ref aT]) hx hb hml hown hts (c_L_low l G cI cJ cZ cO cA e _ (p1 >>> (16 &&& 31)) 10 hq6) (tb_S kw473 kw474 kw0 kw475) rfl rfl (by decide +kernel) ⟨Nat.le_of_ble_eq_true rfl, Nat.le_of_ble_eq_true rfl⟩ hK hP hD hS hA hE rfl rfl hl.1 (Nat.le_of_ble_eq_true rfl) ⟨Nat.zero_le _, Nat.zero_le _⟩ dL_changes_97 (fun H locs hP hD hS => ?_)
    refine lv_iadd hx hb dL_changes_100 ?_
    refine lv_iload_n hx hb dL_changes_101 rfl (lv_at hl 2 rfl) ?_
    refine lv_bipush (v := 20) hx hb dL_changes_102 (by decide) ?_
    refine lv_ishr hx hb dL_changes_104 ?_
    refine lv_iconst (v := 1) hx hb dL_changes_105 (by decide) ?_
    refine lv_iand hx hb dL_changes_106 ?_
    refine lv_iconst (v := 1) hx hb dL_changes_107 (by decide) ?_
    refine lv_iload_n hx hb dL_changes_108 rfl (lv_at hl 2 rfl) ?_
    refine lv_bipush (v := 21) hx hb dL_changes_109 (by decide) ?_
    refine lv_ishr hx hb dL_changes_111 ?_
    refine lv_bipush (v := 10) hx hb dL_changes_112 (by decide) ?_
    obtain ⟨q7, hq7, h⟩ := bd_s h
    refine kSi (n := 2) (As := [.int (p1 >>> (21 &&& 31)), .int 10]) (rest := [.int 1, .int ((p1 >>> (20 &&& 31)) &&& 1), .int (1 + q6), .int ((p1 >>> (14 &&& 31)) &&& 3), .int (q5 - 10), .int (q4 - 10), .ref aT]) hx hb hml hown hts (c_L_low l G cI cJ cZ cO cA e _ (p1 >>> (21 &&& 31)) 10 hq7) (tb_S kw473 kw474 kw0 kw475) rfl rfl (by decide +kernel) ⟨Nat.le_of_ble_eq_true rfl, Nat.le_of_ble_eq_true rfl⟩ hK hP hD hS hA hE rfl rfl hl.1 (Nat.le_of_ble_eq_true rfl) ⟨Nat.zero_le _, Nat.zero_le _⟩ dL_changes_114 (fun H locs hP hD hS => ?_)
    refine lv_iadd hx hb dL_changes_117 ?_
    obtain ⟨q8, hq8, h⟩ := bd_s h
    refine kVi (n := 6) (C := RX4) (ws' := wT aT (aS 0) (aH 0) (aE 0) (aX 0) ++ (wS cI cJ aS q8.2.1 q8.2.2.1 ta se qu im su q8.2.2.2.1 sc rc cn so ++ (wH cI cJ cO aH aK q8.2.2.2.2.1 q8.2.2.2.2.2.1 q8.2.2.2.2.2.2 ++ ([] : va_W)))) (As := [.int (q4 - 10), .int (q5 - 10), .int ((p1 >>> (14 &&& 31)) &&& 3), .int (1 + q6), .int ((p1 >>> (20 &&& 31)) &&& 1), .int (1 + q7)]) (rest := []) hx hb hml hown hts (c_X4_addThruster l G cI cJ cZ cO cA e aT aS aH aE aX aK _ pr pu ta se qu im su tc sc rc cn so hs ol ct (q4 - 10) (q5 - 10) ((p1 >>> (14 &&& 31)) &&& 3) (1 + q6) ((p1 >>> (20 &&& 31)) &&& 1) (1 + q7) hq8) (tb_V kw178 kw179 kw180 kw1 kw181) rfl rfl (by decide +kernel) ⟨Nat.le_of_ble_eq_true rfl, Nat.le_of_ble_eq_true rfl⟩ hK hP hD hS hA hE 0 rfl rfl [0, 1, 2, 3, 4, 5, 6, 7, 8, 9, 10, 11, 12, 13, 14, 15, 16, 17, 18, 19, 20, 21, 22, 23, 24, 25, 26, 27, 28, 29, 30, 31, 32, 33, 34, 35, 36, 37, 38, 39, 40, 41, 42, 43, 44, 45, 46, 47, 48, 49, 50] [] rfl rfl rfl 51 ⟨rfl, rfl⟩ (by decide +kernel) (by decide +kernel) rfl rfl hl.1 (Nat.le_of_ble_eq_true rfl) ⟨Nat.zero_le _, Nat.zero_le _⟩ dL_changes_118 (fun H locs hP hD hS => ?_)
    rw [← Option.some.inj h]
    exact kri hx hb hr hlk rfl rfl hP hD hS hK dL_changes_121
  replace h := (if_neg c9).symm.trans h
  by_cases c15 : q2 = 1
  · replace h := (if_pos c15).symm.trans h
    refine W.eq (g2 := F0 m 15 ls [.int 1]) (by rw [c15]) ?_
    refine lv_tableIn (tgt := 60) (off := 45) hx hb dL_changes_15 (by decide) (by decide) (by decide) (by decide) ?_
    refine lv_aload_n hx hb dL_changes_60 rfl (lv_at hl 1 rfl) ?_
    refine lv_iload_n hx hb dL_changes_61 rfl (lv_at hl 2 rfl) ?_
    refine lv_iconst (v := 4) hx hb dL_changes_62 (by decide) ?_
    refine lv_ishr hx hb dL_changes_63 ?_
    refine lv_bipush (v := 21) hx hb dL_changes_64 (by decide) ?_
    obtain ⟨q10, hq10, h⟩ := bd_s h
    refine kSi (n := 2) (As := [.int (p1 >>> (4 &&& 31)), .int 21]) (rest := [.ref aT]) hx hb hml hown hts (c_L_low l G cI cJ cZ cO cA e _ (p1 >>> (4 &&& 31)) 21 hq10) (tb_S kw473 kw474 kw0 kw475) rfl rfl (by decide +kernel) ⟨Nat.le_of_ble_eq_true rfl, Nat.le_of_ble_eq_true rfl⟩ hK hP hD hS hA hE rfl rfl hl.1 (Nat.le_of_ble_eq_true rfl) ⟨Nat.zero_le _, Nat.zero_le _⟩ dL_changes_66 (fun H locs hP hD hS => ?_)
    refine lv_bipush (v := 10) hx hb dL_changes_69 (by decide) ?_
    refine lv_isub hx hb dL_changes_71 ?_
    refine lv_iload_n hx hb dL_changes_72 rfl (lv_at hl 2 rfl) ?_
    refine lv_bipush (v := 9) hx hb dL_changes_73 (by decide) ?_
    refine lv_ishr hx hb dL_changes_75 ?_
    refine lv_bipush (v := 21) hx hb dL_changes_76 (by decide) ?_
    obtain ⟨q11, hq11, h⟩ := bd_s h
    refine kSi (n := 2) (As := [.int (p1 >>> (9 &&& 31)), .int 21]) (rest := [.int (q10 - 10), .ref aT]) hx hb hml hown hts (c_L_low l G cI cJ cZ cO cA e _ (p1 >>> (9 &&& 31)) 21 hq11) (tb_S kw473 kw474 kw0 kw475) rfl rfl (by decide +kernel) ⟨Nat.le_of_ble_eq_true rfl, Nat.le_of_ble_eq_true rfl⟩ hK hP hD hS hA hE rfl rfl hl.1 (Nat.le_of_ble_eq_true rfl) ⟨Nat.zero_le _, Nat.zero_le _⟩ dL_changes_78 (fun H locs hP hD hS => ?_)
    refine lv_bipush (v := 10) hx hb dL_changes_81 (by decide) ?_
    refine lv_isub hx hb dL_changes_83 ?_
    refine lv_iload_n hx hb dL_changes_84 rfl (lv_at hl 2 rfl) ?_
    refine lv_bipush (v := 14) hx hb dL_changes_85 (by decide) ?_
    refine lv_ishr hx hb dL_changes_87 ?_
    refine lv_iconst (v := 3) hx hb dL_changes_88 (by decide) ?_
    refine lv_iand hx hb dL_changes_89 ?_
    refine lv_iconst (v := 1) hx hb dL_changes_90 (by decide) ?_
    refine lv_iload_n hx hb dL_changes_91 rfl (lv_at hl 2 rfl) ?_
    refine lv_bipush (v := 16) hx hb dL_changes_92 (by decide) ?_
    refine lv_ishr hx hb dL_changes_94 ?_
    refine lv_bipush (v := 10) hx hb dL_changes_95 (by decide) ?_
    obtain ⟨q12, hq12, h⟩ := bd_s h
    refine kSi (n := 2) (As := [.int (p1 >>> (16 &&& 31)), .int 10]) (rest := [.int 1, .int ((p1 >>> (14 &&& 31)) &&& 3), .int (q11 - 10), .int (q10 - 10), .ref aT]) hx hb hml hown hts (c_L_low l G cI cJ cZ cO cA e _ (p1 >>> (16 &&& 31)) 10 hq12) (tb_S kw473 kw474 kw0 kw475) rfl rfl (by decide +kernel) ⟨Nat.le_of_ble_eq_true rfl, Nat.le_of_ble_eq_true rfl⟩ hK hP hD hS hA hE rfl rfl hl.1 (Nat.le_of_ble_eq_true rfl) ⟨Nat.zero_le _, Nat.zero_le _⟩ dL_changes_97 (fun H locs hP hD hS => ?_)
    refine lv_iadd hx hb dL_changes_100 ?_
    refine lv_iload_n hx hb dL_changes_101 rfl (lv_at hl 2 rfl) ?_
    refine lv_bipush (v := 20) hx hb dL_changes_102 (by decide) ?_
    refine lv_ishr hx hb dL_changes_104 ?_
    refine lv_iconst (v := 1) hx hb dL_changes_105 (by decide) ?_
    refine lv_iand hx hb dL_changes_106 ?_
    refine lv_iconst (v := 1) hx hb dL_changes_107 (by decide) ?_
    refine lv_iload_n hx hb dL_changes_108 rfl (lv_at hl 2 rfl) ?_
    refine lv_bipush (v := 21) hx hb dL_changes_109 (by decide) ?_
    refine lv_ishr hx hb dL_changes_111 ?_
    refine lv_bipush (v := 10) hx hb dL_changes_112 (by decide) ?_
    obtain ⟨q13, hq13, h⟩ := bd_s h
    refine kSi (n := 2) (As := [.int (p1 >>> (21 &&& 31)), .int 10]) (rest := [.int 1, .int ((p1 >>> (20 &&& 31)) &&& 1), .int (1 + q12), .int ((p1 >>> (14 &&& 31)) &&& 3), .int (q11 - 10), .int (q10 - 10), .ref aT]) hx hb hml hown hts (c_L_low l G cI cJ cZ cO cA e _ (p1 >>> (21 &&& 31)) 10 hq13) (tb_S kw473 kw474 kw0 kw475) rfl rfl (by decide +kernel) ⟨Nat.le_of_ble_eq_true rfl, Nat.le_of_ble_eq_true rfl⟩ hK hP hD hS hA hE rfl rfl hl.1 (Nat.le_of_ble_eq_true rfl) ⟨Nat.zero_le _, Nat.zero_le _⟩ dL_changes_114 (fun H locs hP hD hS => ?_)
    refine lv_iadd hx hb dL_changes_117 ?_
    obtain ⟨q14, hq14, h⟩ := bd_s h
    refine kVi (n := 6) (C := RX4) (ws' := wT aT (aS 0) (aH 0) (aE 0) (aX 0) ++ (wS cI cJ aS q14.2.1 q14.2.2.1 ta se qu im su q14.2.2.2.1 sc rc cn so ++ (wH cI cJ cO aH aK q14.2.2.2.2.1 q14.2.2.2.2.2.1 q14.2.2.2.2.2.2 ++ ([] : va_W)))) (As := [.int (q10 - 10), .int (q11 - 10), .int ((p1 >>> (14 &&& 31)) &&& 3), .int (1 + q12), .int ((p1 >>> (20 &&& 31)) &&& 1), .int (1 + q13)]) (rest := []) hx hb hml hown hts (c_X4_addThruster l G cI cJ cZ cO cA e aT aS aH aE aX aK _ pr pu ta se qu im su tc sc rc cn so hs ol ct (q10 - 10) (q11 - 10) ((p1 >>> (14 &&& 31)) &&& 3) (1 + q12) ((p1 >>> (20 &&& 31)) &&& 1) (1 + q13) hq14) (tb_V kw178 kw179 kw180 kw1 kw181) rfl rfl (by decide +kernel) ⟨Nat.le_of_ble_eq_true rfl, Nat.le_of_ble_eq_true rfl⟩ hK hP hD hS hA hE 0 rfl rfl [0, 1, 2, 3, 4, 5, 6, 7, 8, 9, 10, 11, 12, 13, 14, 15, 16, 17, 18, 19, 20, 21, 22, 23, 24, 25, 26, 27, 28, 29, 30, 31, 32, 33, 34, 35, 36, 37, 38, 39, 40, 41, 42, 43, 44, 45, 46, 47, 48, 49, 50] [] rfl rfl rfl 51 ⟨rfl, rfl⟩ (by decide +kernel) (by decide +kernel) rfl rfl hl.1 (Nat.le_of_ble_eq_true rfl) ⟨Nat.zero_le _, Nat.zero_le _⟩ dL_changes_118 (fun H locs hP hD hS => ?_)
    rw [← Option.some.inj h]
    exact kri hx hb hr hlk rfl rfl hP hD hS hK dL_changes_121
  replace h := (if_neg c15).symm.trans h
  by_cases c20 : q2 = 2
  · replace h := (if_pos c20).symm.trans h
    refine W.eq (g2 := F0 m 15 ls [.int 2]) (by rw [c20]) ?_
    refine lv_tableIn (tgt := 122) (off := 107) hx hb dL_changes_15 (by decide) (by decide) (by decide) (by decide) ?_
    refine lv_aload_n hx hb dL_changes_122 rfl (lv_at hl 1 rfl) ?_
    refine lv_iload_n hx hb dL_changes_123 rfl (lv_at hl 0 rfl) ?_
    refine lv_iload_n hx hb dL_changes_124 rfl (lv_at hl 2 rfl) ?_
    refine lv_bipush (v := 7) hx hb dL_changes_125 (by decide) ?_
    refine lv_ishr hx hb dL_changes_127 ?_
    refine lv_iconst (v := 3) hx hb dL_changes_128 (by decide) ?_
    refine lv_iand hx hb dL_changes_129 ?_
    refine lv_iconst (v := 3) hx hb dL_changes_130 (by decide) ?_
    have hJ17 : ∀ (pr_17 : Nat → Int32) (pu_17 : Nat → Int32) (ta_17 : Nat → Int32) (se_17 : Nat → Int32) (qu_17 : Nat → Int32) (tc_17 : Int32) (sc_17 : Int32) (rc_17 : Int32) (hs_17 : Nat → SV) (ol_17 : Int32) (ct_17 : Int32) (t0_17 : Int32) (t1_17 : Int32) (H : Heap) (locs : List Loc) (ls : Array Slot), f_L_changes_j153 pr_17 pu_17 ta_17 se_17 qu_17 im su tc_17 sc_17 rc_17 cn so hs_17 ol_17 ct_17 t0_17 t1_17 = some res → va_P G vwCl (wT aT (aS 0) (aH 0) (aE 0) (aX 0) ++ (wS cI cJ aS pr_17 pu_17 ta_17 se_17 qu_17 im su tc_17 sc_17 rc_17 cn so ++ (wH cI cJ cO aH aK hs_17 ol_17 ct_17 ++ ([] : va_W)))) H → va_D A (wT aT (aS 0) (aH 0) (aE 0) (aX 0) ++ (wS cI cJ aS pr_17 pu_17 ta_17 se_17 qu_17 im su tc_17 sc_17 rc_17 cn so ++ (wH cI cJ cO aH aK hs_17 ol_17 ct_17 ++ ([] : va_W)))) → va_S A s.heap H locs → lv_has ls 3 [] → W p l ev ({ frames := 5, cells := 0, slots := 0, locals := 129 } : Room) s m ([.ref aT, .int p1] : List Value).toArray below meth c H locs 0 0 (MQ below (qI G (ty5 cI cJ cZ cO cA) A (wT aT (aS 0) (aH 0) (aE 0) (aX 0) ++ (wS cI cJ aS res.2.1 res.2.2.1 res.2.2.2.1 res.2.2.2.2.1 res.2.2.2.2.2.1 im su res.2.2.2.2.2.2.1 res.2.2.2.2.2.2.2.1 res.2.2.2.2.2.2.2.2.1 cn so ++ (wH cI cJ cO aH aK res.2.2.2.2.2.2.2.2.2.1 res.2.2.2.2.2.2.2.2.2.2.1 res.2.2.2.2.2.2.2.2.2.2.2 ++ ([] : va_W)))) res.1) ([.ref aT, .int p1] : List Value).toArray s 0 0 A) (F0 m 153 ls [.int t0_17, .int t1_17, .ref aT]) := by
      intro pr_17 pu_17 ta_17 se_17 qu_17 tc_17 sc_17 rc_17 hs_17 ol_17 ct_17 t0_17 t1_17 H locs ls h hP hD hS hl
      unfold f_L_changes_j153 at h
      obtain ⟨q18, hq18, h⟩ := bd_s h
      refine kVi (n := 2) (C := RX4) (ws' := wT aT (aS 0) (aH 0) (aE 0) (aX 0) ++ (wS cI cJ aS q18.2.1 pu_17 ta_17 se_17 qu_17 im su tc_17 sc_17 rc_17 cn so ++ (wH cI cJ cO aH aK q18.2.2.1 q18.2.2.2.1 q18.2.2.2.2 ++ ([] : va_W)))) (As := [.int t1_17, .int t0_17]) (rest := []) hx hb hml hown hts (c_X4_setState l G cI cJ cZ cO cA e aT aS aH aE aX aK _ pr_17 pu_17 ta_17 se_17 qu_17 im su tc_17 sc_17 rc_17 cn so hs_17 ol_17 ct_17 t1_17 t0_17 hq18) (tb_V kw543 kw544 kw545 kw1 kw546) rfl rfl (by decide +kernel) ⟨Nat.le_of_ble_eq_true rfl, Nat.le_of_ble_eq_true rfl⟩ hK hP hD hS hA hE 0 rfl rfl [0, 1, 2, 3, 4, 5, 6, 7, 8, 9, 10, 11, 12, 13, 14, 15, 16, 17, 18, 19, 20, 21, 22, 23, 24, 25, 26, 27, 28, 29, 30, 31, 32, 33, 34, 35, 36, 37, 38, 39, 40, 41, 42, 43, 44, 45, 46, 47, 48, 49, 50] [] rfl rfl rfl 51 ⟨rfl, rfl⟩ (by decide +kernel) (by decide +kernel) rfl rfl hl.1 (Nat.le_of_ble_eq_true rfl) ⟨Nat.zero_le _, Nat.zero_le _⟩ dL_changes_153 (fun H locs hP hD hS => ?_)
      rw [← Option.some.inj h]
      exact kri hx hb hr hlk rfl rfl hP hD hS hK dL_changes_156
    refine lv_icmp_ne (tgt := 138) hx hb dL_changes_131 (by decide) (fun c16 => ?_) (fun c16 => ?_)
    · replace h := (if_neg c16).symm.trans h
      refine lv_iload_n hx hb dL_changes_138 rfl (lv_at hl 2 rfl) ?_
      refine lv_bipush (v := 7) hx hb dL_changes_139 (by decide) ?_
      refine lv_ishr hx hb dL_changes_141 ?_
      refine lv_iconst (v := 3) hx hb dL_changes_142 (by decide) ?_
      refine lv_iand hx hb dL_changes_143 ?_
      refine lv_iconst (v := 2) hx hb dL_changes_144 (by decide) ?_
      refine lv_icmp_ne (tgt := 152) hx hb dL_changes_145 (by decide) (fun c19 => ?_) (fun c19 => ?_)
      · replace h := (if_neg c19).symm.trans h
        refine lv_iconst (v := 0) hx hb dL_changes_152 (by decide) ?_
        exact hJ17 pr pu ta se qu tc sc rc hs ol ct 0 q1 _ _ _ h hP hD hS (lv_sub hl [] rfl)
      · replace h := (if_pos c19).symm.trans h
        refine lv_iconst (v := 1) hx hb dL_changes_148 (by decide) ?_
        refine lv_goto (tgt := 153) hx hb dL_changes_149 (by decide) ?_
        exact hJ17 pr pu ta se qu tc sc rc hs ol ct 1 q1 _ _ _ h hP hD hS (lv_sub hl [] rfl)
    · replace h := (if_pos c16).symm.trans h
      refine lv_iconst (v := 2) hx hb dL_changes_134 (by decide) ?_
      refine lv_goto (tgt := 153) hx hb dL_changes_135 (by decide) ?_
      exact hJ17 pr pu ta se qu tc sc rc hs ol ct 2 q1 _ _ _ h hP hD hS (lv_sub hl [] rfl)
  replace h := (if_neg c20).symm.trans h
  by_cases c23 : q2 = 3
  · replace h := (if_pos c23).symm.trans h
    refine W.eq (g2 := F0 m 15 ls [.int 3]) (by rw [c23]) ?_
    refine lv_tableIn (tgt := 157) (off := 142) hx hb dL_changes_15 (by decide) (by decide) (by decide) (by decide) ?_
    refine lv_aload_n hx hb dL_changes_157 rfl (lv_at hl 1 rfl) ?_
    refine lv_iload_n hx hb dL_changes_158 rfl (lv_at hl 2 rfl) ?_
    refine lv_iconst (v := 4) hx hb dL_changes_159 (by decide) ?_
    refine lv_ishr hx hb dL_changes_160 ?_
    refine lv_sipush (v := 256) hx hb dL_changes_161 (by decide) ?_
    obtain ⟨q21, hq21, h⟩ := bd_s h
    refine kSi (n := 2) (As := [.int (p1 >>> (4 &&& 31)), .int 256]) (rest := [.ref aT]) hx hb hml hown hts (c_L_low l G cI cJ cZ cO cA e _ (p1 >>> (4 &&& 31)) 256 hq21) (tb_S kw473 kw474 kw0 kw475) rfl rfl (by decide +kernel) ⟨Nat.le_of_ble_eq_true rfl, Nat.le_of_ble_eq_true rfl⟩ hK hP hD hS hA hE rfl rfl hl.1 (Nat.le_of_ble_eq_true rfl) ⟨Nat.zero_le _, Nat.zero_le _⟩ dL_changes_164 (fun H locs hP hD hS => ?_)
    obtain ⟨q22, hq22, h⟩ := bd_s h
    refine kVi (n := 1) (C := RX4) (ws' := wT aT (aS 0) (aH 0) (aE 0) (aX 0) ++ (wS cI cJ aS pr pu ta q22.2.1 qu im su tc q22.2.2.1 rc cn so ++ (wH cI cJ cO aH aK q22.2.2.2.1 q22.2.2.2.2.1 q22.2.2.2.2.2 ++ ([] : va_W)))) (As := [.int q21]) (rest := []) hx hb hml hown hts (c_X4_forbid l G cI cJ cZ cO cA e aT aS aH aE aX aK _ pr pu ta se qu im su tc sc rc cn so hs ol ct q21 hq22) (tb_V kw261 kw262 kw263 kw1 kw264) rfl rfl (by decide +kernel) ⟨Nat.le_of_ble_eq_true rfl, Nat.le_of_ble_eq_true rfl⟩ hK hP hD hS hA hE 0 rfl rfl [0, 1, 2, 3, 4, 5, 6, 7, 8, 9, 10, 11, 12, 13, 14, 15, 16, 17, 18, 19, 20, 21, 22, 23, 24, 25, 26, 27, 28, 29, 30, 31, 32, 33, 34, 35, 36, 37, 38, 39, 40, 41, 42, 43, 44, 45, 46, 47, 48, 49, 50] [] rfl rfl rfl 51 ⟨rfl, rfl⟩ (by decide +kernel) (by decide +kernel) rfl rfl hl.1 (Nat.le_of_ble_eq_true rfl) ⟨Nat.zero_le _, Nat.zero_le _⟩ dL_changes_167 (fun H locs hP hD hS => ?_)
    rw [← Option.some.inj h]
    exact kri hx hb hr hlk rfl rfl hP hD hS hK dL_changes_170
  replace h := (if_neg c23).symm.trans h
  by_cases c26 : q2 = 4
  · replace h := (if_pos c26).symm.trans h
    refine W.eq (g2 := F0 m 15 ls [.int 4]) (by rw [c26]) ?_
    refine lv_tableIn (tgt := 171) (off := 156) hx hb dL_changes_15 (by decide) (by decide) (by decide) (by decide) ?_
    refine lv_aload_n hx hb dL_changes_171 rfl (lv_at hl 1 rfl) ?_
    refine lv_iload_n hx hb dL_changes_172 rfl (lv_at hl 2 rfl) ?_
    refine lv_iconst (v := 4) hx hb dL_changes_173 (by decide) ?_
    refine lv_ishr hx hb dL_changes_174 ?_
    refine lv_sipush (v := 256) hx hb dL_changes_175 (by decide) ?_
    obtain ⟨q24, hq24, h⟩ := bd_s h
    refine kSi (n := 2) (As := [.int (p1 >>> (4 &&& 31)), .int 256]) (rest := [.ref aT]) hx hb hml hown hts (c_L_low l G cI cJ cZ cO cA e _ (p1 >>> (4 &&& 31)) 256 hq24) (tb_S kw473 kw474 kw0 kw475) rfl rfl (by decide +kernel) ⟨Nat.le_of_ble_eq_true rfl, Nat.le_of_ble_eq_true rfl⟩ hK hP hD hS hA hE rfl rfl hl.1 (Nat.le_of_ble_eq_true rfl) ⟨Nat.zero_le _, Nat.zero_le _⟩ dL_changes_178 (fun H locs hP hD hS => ?_)
    obtain ⟨q25, hq25, h⟩ := bd_s h
    refine kVi (n := 1) (C := RX4) (ws' := wT aT (aS 0) (aH 0) (aE 0) (aX 0) ++ (wS cI cJ aS pr pu ta q25.2.1 qu im su tc q25.2.2.1 rc cn so ++ (wH cI cJ cO aH aK q25.2.2.2.1 q25.2.2.2.2.1 q25.2.2.2.2.2 ++ ([] : va_W)))) (As := [.int q24]) (rest := []) hx hb hml hown hts (c_X4_allow l G cI cJ cZ cO cA e aT aS aH aE aX aK _ pr pu ta se qu im su tc sc rc cn so hs ol ct q24 hq25) (tb_V kw548 kw549 kw550 kw1 kw551) rfl rfl (by decide +kernel) ⟨Nat.le_of_ble_eq_true rfl, Nat.le_of_ble_eq_true rfl⟩ hK hP hD hS hA hE 0 rfl rfl [0, 1, 2, 3, 4, 5, 6, 7, 8, 9, 10, 11, 12, 13, 14, 15, 16, 17, 18, 19, 20, 21, 22, 23, 24, 25, 26, 27, 28, 29, 30, 31, 32, 33, 34, 35, 36, 37, 38, 39, 40, 41, 42, 43, 44, 45, 46, 47, 48, 49, 50] [] rfl rfl rfl 51 ⟨rfl, rfl⟩ (by decide +kernel) (by decide +kernel) rfl rfl hl.1 (Nat.le_of_ble_eq_true rfl) ⟨Nat.zero_le _, Nat.zero_le _⟩ dL_changes_181 (fun H locs hP hD hS => ?_)
    rw [← Option.some.inj h]
    exact kri hx hb hr hlk rfl rfl hP hD hS hK dL_changes_184
  replace h := (if_neg c26).symm.trans h
  by_cases c32 : q2 = 5
  · replace h := (if_pos c32).symm.trans h
    refine W.eq (g2 := F0 m 15 ls [.int 5]) (by rw [c32]) ?_
    refine lv_tableIn (tgt := 185) (off := 170) hx hb dL_changes_15 (by decide) (by decide) (by decide) (by decide) ?_
    refine lv_aload_n hx hb dL_changes_185 rfl (lv_at hl 1 rfl) ?_
    refine lv_iload_n hx hb dL_changes_186 rfl (lv_at hl 2 rfl) ?_
    refine lv_iconst (v := 4) hx hb dL_changes_187 (by decide) ?_
    refine lv_ishr hx hb dL_changes_188 ?_
    refine lv_iconst (v := 1) hx hb dL_changes_189 (by decide) ?_
    refine lv_iand hx hb dL_changes_190 ?_
    refine lv_iload_n hx hb dL_changes_191 rfl (lv_at hl 2 rfl) ?_
    refine lv_iconst (v := 5) hx hb dL_changes_192 (by decide) ?_
    refine lv_ishr hx hb dL_changes_193 ?_
    refine lv_iconst (v := 3) hx hb dL_changes_194 (by decide) ?_
    refine lv_iand hx hb dL_changes_195 ?_
    have hJ28 : ∀ (pr_28 : Nat → Int32) (pu_28 : Nat → Int32) (ta_28 : Nat → Int32) (se_28 : Nat → Int32) (qu_28 : Nat → Int32) (tc_28 : Int32) (sc_28 : Int32) (rc_28 : Int32) (hs_28 : Nat → SV) (ol_28 : Int32) (ct_28 : Int32) (t0_28 : Int32) (t1_28 : Int32) (H : Heap) (locs : List Loc) (ls : Array Slot), f_L_changes_j221 pr_28 pu_28 ta_28 se_28 qu_28 im su tc_28 sc_28 rc_28 cn so hs_28 ol_28 ct_28 t0_28 t1_28 = some res → va_P G vwCl (wT aT (aS 0) (aH 0) (aE 0) (aX 0) ++ (wS cI cJ aS pr_28 pu_28 ta_28 se_28 qu_28 im su tc_28 sc_28 rc_28 cn so ++ (wH cI cJ cO aH aK hs_28 ol_28 ct_28 ++ ([] : va_W)))) H → va_D A (wT aT (aS 0) (aH 0) (aE 0) (aX 0) ++ (wS cI cJ aS pr_28 pu_28 ta_28 se_28 qu_28 im su tc_28 sc_28 rc_28 cn so ++ (wH cI cJ cO aH aK hs_28 ol_28 ct_28 ++ ([] : va_W)))) → va_S A s.heap H locs → lv_has ls 3 [] → W p l ev ({ frames := 5, cells := 0, slots := 0, locals := 129 } : Room) s m ([.ref aT, .int p1] : List Value).toArray below meth c H locs 0 0 (MQ below (qI G (ty5 cI cJ cZ cO cA) A (wT aT (aS 0) (aH 0) (aE 0) (aX 0) ++ (wS cI cJ aS res.2.1 res.2.2.1 res.2.2.2.1 res.2.2.2.2.1 res.2.2.2.2.2.1 im su res.2.2.2.2.2.2.1 res.2.2.2.2.2.2.2.1 res.2.2.2.2.2.2.2.2.1 cn so ++ (wH cI cJ cO aH aK res.2.2.2.2.2.2.2.2.2.1 res.2.2.2.2.2.2.2.2.2.2.1 res.2.2.2.2.2.2.2.2.2.2.2 ++ ([] : va_W)))) res.1) ([.ref aT, .int p1] : List Value).toArray s 0 0 A) (F0 m 221 ls [.int t0_28, .int t1_28, .ref aT]) := by
      intro pr_28 pu_28 ta_28 se_28 qu_28 tc_28 sc_28 rc_28 hs_28 ol_28 ct_28 t0_28 t1_28 H locs ls h hP hD hS hl
      unfold f_L_changes_j221 at h
      obtain ⟨q29, hq29, h⟩ := bd_s h
      refine kVi (n := 2) (C := RX4) (ws' := wT aT (aS 0) (aH 0) (aE 0) (aX 0) ++ (wS cI cJ aS pr_28 pu_28 q29.2.1 se_28 qu_28 im su tc_28 sc_28 rc_28 cn so ++ (wH cI cJ cO aH aK q29.2.2.1 q29.2.2.2.1 q29.2.2.2.2 ++ ([] : va_W)))) (As := [.int t1_28, .int t0_28]) (rest := []) hx hb hml hown hts (c_X4_refuel l G cI cJ cZ cO cA e aT aS aH aE aX aK _ pr_28 pu_28 ta_28 se_28 qu_28 im su tc_28 sc_28 rc_28 cn so hs_28 ol_28 ct_28 t1_28 t0_28 hq29) (tb_V kw557 kw558 kw559 kw1 kw560) rfl rfl (by decide +kernel) ⟨Nat.le_of_ble_eq_true rfl, Nat.le_of_ble_eq_true rfl⟩ hK hP hD hS hA hE 0 rfl rfl [0, 1, 2, 3, 4, 5, 6, 7, 8, 9, 10, 11, 12, 13, 14, 15, 16, 17, 18, 19, 20, 21, 22, 23, 24, 25, 26, 27, 28, 29, 30, 31, 32, 33, 34, 35, 36, 37, 38, 39, 40, 41, 42, 43, 44, 45, 46, 47, 48, 49, 50] [] rfl rfl rfl 51 ⟨rfl, rfl⟩ (by decide +kernel) (by decide +kernel) rfl rfl hl.1 (Nat.le_of_ble_eq_true rfl) ⟨Nat.zero_le _, Nat.zero_le _⟩ dL_changes_221 (fun H locs hP hD hS => ?_)
      rw [← Option.some.inj h]
      exact kri hx hb hr hlk rfl rfl hP hD hS hK dL_changes_224
    refine lv_if_ne (tgt := 212) hx hb dL_changes_196 (by decide) (fun c27 => ?_) (fun c27 => ?_)
    · replace h := (if_neg c27).symm.trans h
      refine lv_iload_n hx hb dL_changes_212 rfl (lv_at hl 2 rfl) ?_
      refine lv_bipush (v := 7) hx hb dL_changes_213 (by decide) ?_
      refine lv_ishr hx hb dL_changes_215 ?_
      refine lv_ldc (v := 100001) hx hb hown (hts _ kw556) dL_changes_216 ?_
      obtain ⟨q30, hq30, h⟩ := bd_s h
      refine kSi (n := 2) (As := [.int (p1 >>> (7 &&& 31)), .int 100001]) (rest := [.int ((p1 >>> (4 &&& 31)) &&& 1), .ref aT]) hx hb hml hown hts (c_L_low l G cI cJ cZ cO cA e _ (p1 >>> (7 &&& 31)) 100001 hq30) (tb_S kw473 kw474 kw0 kw475) rfl rfl (by decide +kernel) ⟨Nat.le_of_ble_eq_true rfl, Nat.le_of_ble_eq_true rfl⟩ hK hP hD hS hA hE rfl rfl hl.1 (Nat.le_of_ble_eq_true rfl) ⟨Nat.zero_le _, Nat.zero_le _⟩ dL_changes_218 (fun H locs hP hD hS => ?_)
      exact hJ28 pr pu ta se qu tc sc rc hs ol ct q30 ((p1 >>> (4 &&& 31)) &&& 1) _ _ _ h hP hD hS (lv_sub hl [] rfl)
    · replace h := (if_pos c27).symm.trans h
      refine lv_iload_n hx hb dL_changes_199 rfl (lv_at hl 2 rfl) ?_
      refine lv_bipush (v := 7) hx hb dL_changes_200 (by decide) ?_
      refine lv_ishr hx hb dL_changes_202 ?_
      refine lv_sipush (v := 1500) hx hb dL_changes_203 (by decide) ?_
      obtain ⟨q31, hq31, h⟩ := bd_s h
      refine kSi (n := 2) (As := [.int (p1 >>> (7 &&& 31)), .int 1500]) (rest := [.int ((p1 >>> (4 &&& 31)) &&& 1), .ref aT]) hx hb hml hown hts (c_L_low l G cI cJ cZ cO cA e _ (p1 >>> (7 &&& 31)) 1500 hq31) (tb_S kw473 kw474 kw0 kw475) rfl rfl (by decide +kernel) ⟨Nat.le_of_ble_eq_true rfl, Nat.le_of_ble_eq_true rfl⟩ hK hP hD hS hA hE rfl rfl hl.1 (Nat.le_of_ble_eq_true rfl) ⟨Nat.zero_le _, Nat.zero_le _⟩ dL_changes_206 (fun H locs hP hD hS => ?_)
      refine lv_goto (tgt := 221) hx hb dL_changes_209 (by decide) ?_
      exact hJ28 pr pu ta se qu tc sc rc hs ol ct q31 ((p1 >>> (4 &&& 31)) &&& 1) _ _ _ h hP hD hS (lv_sub hl [] rfl)
  replace h := (if_neg c32).symm.trans h
  by_cases c35 : q2 = 6
  · replace h := (if_pos c35).symm.trans h
    refine W.eq (g2 := F0 m 15 ls [.int 6]) (by rw [c35]) ?_
    refine lv_tableIn (tgt := 225) (off := 210) hx hb dL_changes_15 (by decide) (by decide) (by decide) (by decide) ?_
    refine lv_aload_n hx hb dL_changes_225 rfl (lv_at hl 1 rfl) ?_
    refine lv_iload_n hx hb dL_changes_226 rfl (lv_at hl 2 rfl) ?_
    refine lv_iconst (v := 4) hx hb dL_changes_227 (by decide) ?_
    refine lv_ishr hx hb dL_changes_228 ?_
    refine lv_bipush (v := 11) hx hb dL_changes_229 (by decide) ?_
    obtain ⟨q33, hq33, h⟩ := bd_s h
    refine kSi (n := 2) (As := [.int (p1 >>> (4 &&& 31)), .int 11]) (rest := [.ref aT]) hx hb hml hown hts (c_L_low l G cI cJ cZ cO cA e _ (p1 >>> (4 &&& 31)) 11 hq33) (tb_S kw473 kw474 kw0 kw475) rfl rfl (by decide +kernel) ⟨Nat.le_of_ble_eq_true rfl, Nat.le_of_ble_eq_true rfl⟩ hK hP hD hS hA hE rfl rfl hl.1 (Nat.le_of_ble_eq_true rfl) ⟨Nat.zero_le _, Nat.zero_le _⟩ dL_changes_231 (fun H locs hP hD hS => ?_)
    obtain ⟨q34, hq34, h⟩ := bd_s h
    refine kVi (n := 1) (C := RX4) (ws' := wT aT (aS 0) (aH 0) (aE 0) (aX 0) ++ (wS cI cJ aS pr pu ta se q34.2.1 im su tc sc q34.2.2.1 cn so ++ (wH cI cJ cO aH aK q34.2.2.2.1 q34.2.2.2.2.1 q34.2.2.2.2.2 ++ ([] : va_W)))) (As := [.int q33]) (rest := []) hx hb hml hown hts (c_X4_cancel l G cI cJ cZ cO cA e aT aS aH aE aX aK _ pr pu ta se qu im su tc sc rc cn so hs ol ct q33 hq34) (tb_V kw562 kw563 kw564 kw1 kw565) rfl rfl (by decide +kernel) ⟨Nat.le_of_ble_eq_true rfl, Nat.le_of_ble_eq_true rfl⟩ hK hP hD hS hA hE 0 rfl rfl [0, 1, 2, 3, 4, 5, 6, 7, 8, 9, 10, 11, 12, 13, 14, 15, 16, 17, 18, 19, 20, 21, 22, 23, 24, 25, 26, 27, 28, 29, 30, 31, 32, 33, 34, 35, 36, 37, 38, 39, 40, 41, 42, 43, 44, 45, 46, 47, 48, 49, 50] [] rfl rfl rfl 51 ⟨rfl, rfl⟩ (by decide +kernel) (by decide +kernel) rfl rfl hl.1 (Nat.le_of_ble_eq_true rfl) ⟨Nat.zero_le _, Nat.zero_le _⟩ dL_changes_234 (fun H locs hP hD hS => ?_)
    rw [← Option.some.inj h]
    exact kri hx hb hr hlk rfl rfl hP hD hS hK dL_changes_237
  replace h := (if_neg c35).symm.trans h
  by_cases c40 : q2 = 7
  · replace h := (if_pos c40).symm.trans h
    refine W.eq (g2 := F0 m 15 ls [.int 7]) (by rw [c40]) ?_
    refine lv_tableIn (tgt := 238) (off := 223) hx hb dL_changes_15 (by decide) (by decide) (by decide) (by decide) ?_
    refine lv_aload_n hx hb dL_changes_238 rfl (lv_at hl 1 rfl) ?_
    refine lv_iload_n hx hb dL_changes_239 rfl (lv_at hl 2 rfl) ?_
    refine lv_iconst (v := 4) hx hb dL_changes_240 (by decide) ?_
    refine lv_ishr hx hb dL_changes_241 ?_
    refine lv_sipush (v := 600) hx hb dL_changes_242 (by decide) ?_
    obtain ⟨q36, hq36, h⟩ := bd_s h
    refine kSi (n := 2) (As := [.int (p1 >>> (4 &&& 31)), .int 600]) (rest := [.ref aT]) hx hb hml hown hts (c_L_low l G cI cJ cZ cO cA e _ (p1 >>> (4 &&& 31)) 600 hq36) (tb_S kw473 kw474 kw0 kw475) rfl rfl (by decide +kernel) ⟨Nat.le_of_ble_eq_true rfl, Nat.le_of_ble_eq_true rfl⟩ hK hP hD hS hA hE rfl rfl hl.1 (Nat.le_of_ble_eq_true rfl) ⟨Nat.zero_le _, Nat.zero_le _⟩ dL_changes_245 (fun H locs hP hD hS => ?_)
    refine lv_sipush (v := 300) hx hb dL_changes_248 (by decide) ?_
    refine lv_isub hx hb dL_changes_251 ?_
    refine lv_iload_n hx hb dL_changes_252 rfl (lv_at hl 2 rfl) ?_
    refine lv_bipush (v := 9) hx hb dL_changes_253 (by decide) ?_
    refine lv_ishr hx hb dL_changes_255 ?_
    refine lv_sipush (v := 600) hx hb dL_changes_256 (by decide) ?_
    obtain ⟨q37, hq37, h⟩ := bd_s h
    refine kSi (n := 2) (As := [.int (p1 >>> (9 &&& 31)), .int 600]) (rest := [.int (q36 - 300), .ref aT]) hx hb hml hown hts (c_L_low l G cI cJ cZ cO cA e _ (p1 >>> (9 &&& 31)) 600 hq37) (tb_S kw473 kw474 kw0 kw475) rfl rfl (by decide +kernel) ⟨Nat.le_of_ble_eq_true rfl, Nat.le_of_ble_eq_true rfl⟩ hK hP hD hS hA hE rfl rfl hl.1 (Nat.le_of_ble_eq_true rfl) ⟨Nat.zero_le _, Nat.zero_le _⟩ dL_changes_259 (fun H locs hP hD hS => ?_)
    refine lv_sipush (v := 300) hx hb dL_changes_262 (by decide) ?_
    refine lv_isub hx hb dL_changes_265 ?_
    refine lv_iload_n hx hb dL_changes_266 rfl (lv_at hl 2 rfl) ?_
    refine lv_bipush (v := 14) hx hb dL_changes_267 (by decide) ?_
    refine lv_ishr hx hb dL_changes_269 ?_
    refine lv_sipush (v := 1200) hx hb dL_changes_270 (by decide) ?_
    obtain ⟨q38, hq38, h⟩ := bd_s h
    refine kSi (n := 2) (As := [.int (p1 >>> (14 &&& 31)), .int 1200]) (rest := [.int (q37 - 300), .int (q36 - 300), .ref aT]) hx hb hml hown hts (c_L_low l G cI cJ cZ cO cA e _ (p1 >>> (14 &&& 31)) 1200 hq38) (tb_S kw473 kw474 kw0 kw475) rfl rfl (by decide +kernel) ⟨Nat.le_of_ble_eq_true rfl, Nat.le_of_ble_eq_true rfl⟩ hK hP hD hS hA hE rfl rfl hl.1 (Nat.le_of_ble_eq_true rfl) ⟨Nat.zero_le _, Nat.zero_le _⟩ dL_changes_273 (fun H locs hP hD hS => ?_)
    refine lv_sipush (v := 600) hx hb dL_changes_276 (by decide) ?_
    refine lv_isub hx hb dL_changes_279 ?_
    obtain ⟨q39, hq39, h⟩ := bd_s h
    refine kVi (n := 3) (C := RX4) (ws' := wT aT (aS 0) (aH 0) (aE 0) (aX 0) ++ (wS cI cJ aS pr pu ta se q39.2.1 im su tc sc q39.2.2.1 cn so ++ (wH cI cJ cO aH aK q39.2.2.2.1 q39.2.2.2.2.1 q39.2.2.2.2.2 ++ ([] : va_W)))) (As := [.int (q36 - 300), .int (q37 - 300), .int (q38 - 600)]) (rest := []) hx hb hml hown hts (c_X4_urge l G cI cJ cZ cO cA e aT aS aH aE aX aK _ pr pu ta se qu im su tc sc rc cn so hs ol ct (q36 - 300) (q37 - 300) (q38 - 600) hq39) (tb_V kw567 kw568 kw569 kw1 kw570) rfl rfl (by decide +kernel) ⟨Nat.le_of_ble_eq_true rfl, Nat.le_of_ble_eq_true rfl⟩ hK hP hD hS hA hE 0 rfl rfl [0, 1, 2, 3, 4, 5, 6, 7, 8, 9, 10, 11, 12, 13, 14, 15, 16, 17, 18, 19, 20, 21, 22, 23, 24, 25, 26, 27, 28, 29, 30, 31, 32, 33, 34, 35, 36, 37, 38, 39, 40, 41, 42, 43, 44, 45, 46, 47, 48, 49, 50] [] rfl rfl rfl 51 ⟨rfl, rfl⟩ (by decide +kernel) (by decide +kernel) rfl rfl hl.1 (Nat.le_of_ble_eq_true rfl) ⟨Nat.zero_le _, Nat.zero_le _⟩ dL_changes_280 (fun H locs hP hD hS => ?_)
    rw [← Option.some.inj h]
    exact kri hx hb hr hlk rfl rfl hP hD hS hK dL_changes_283
  replace h := (if_neg c40).symm.trans h
  refine lv_tableOut (tgt := 284) hx hb dL_changes_15 (sw_out 7 (by decide) (by intro j hj; match j, hj with | 0, _ => exact c9 | 1, _ => exact c15 | 2, _ => exact c20 | 3, _ => exact c23 | 4, _ => exact c26 | 5, _ => exact c32 | 6, _ => exact c35 | 7, _ => exact c40 | j + 8, h9 => exact absurd h9 (by omega))) (by decide) ?_
  refine lv_aload_n hx hb dL_changes_284 rfl (lv_at hl 1 rfl) ?_
  refine lv_iload_n hx hb dL_changes_285 rfl (lv_at hl 2 rfl) ?_
  refine lv_iconst (v := 4) hx hb dL_changes_286 (by decide) ?_
  refine lv_ishr hx hb dL_changes_287 ?_
  refine lv_sipush (v := 600) hx hb dL_changes_288 (by decide) ?_
  obtain ⟨q41, hq41, h⟩ := bd_s h
  refine kSi (n := 2) (As := [.int (p1 >>> (4 &&& 31)), .int 600]) (rest := [.ref aT]) hx hb hml hown hts (c_L_low l G cI cJ cZ cO cA e _ (p1 >>> (4 &&& 31)) 600 hq41) (tb_S kw473 kw474 kw0 kw475) rfl rfl (by decide +kernel) ⟨Nat.le_of_ble_eq_true rfl, Nat.le_of_ble_eq_true rfl⟩ hK hP hD hS hA hE rfl rfl hl.1 (Nat.le_of_ble_eq_true rfl) ⟨Nat.zero_le _, Nat.zero_le _⟩ dL_changes_291 (fun H locs hP hD hS => ?_)
  refine lv_sipush (v := 300) hx hb dL_changes_294 (by decide) ?_
  refine lv_isub hx hb dL_changes_297 ?_
  refine lv_iload_n hx hb dL_changes_298 rfl (lv_at hl 2 rfl) ?_
  refine lv_bipush (v := 9) hx hb dL_changes_299 (by decide) ?_
  refine lv_ishr hx hb dL_changes_301 ?_
  refine lv_sipush (v := 600) hx hb dL_changes_302 (by decide) ?_
  obtain ⟨q42, hq42, h⟩ := bd_s h
  refine kSi (n := 2) (As := [.int (p1 >>> (9 &&& 31)), .int 600]) (rest := [.int (q41 - 300), .ref aT]) hx hb hml hown hts (c_L_low l G cI cJ cZ cO cA e _ (p1 >>> (9 &&& 31)) 600 hq42) (tb_S kw473 kw474 kw0 kw475) rfl rfl (by decide +kernel) ⟨Nat.le_of_ble_eq_true rfl, Nat.le_of_ble_eq_true rfl⟩ hK hP hD hS hA hE rfl rfl hl.1 (Nat.le_of_ble_eq_true rfl) ⟨Nat.zero_le _, Nat.zero_le _⟩ dL_changes_305 (fun H locs hP hD hS => ?_)
  refine lv_sipush (v := 300) hx hb dL_changes_308 (by decide) ?_
  refine lv_isub hx hb dL_changes_311 ?_
  refine lv_iload_n hx hb dL_changes_312 rfl (lv_at hl 2 rfl) ?_
  refine lv_bipush (v := 14) hx hb dL_changes_313 (by decide) ?_
  refine lv_ishr hx hb dL_changes_315 ?_
  refine lv_sipush (v := 1200) hx hb dL_changes_316 (by decide) ?_
  obtain ⟨q43, hq43, h⟩ := bd_s h
  refine kSi (n := 2) (As := [.int (p1 >>> (14 &&& 31)), .int 1200]) (rest := [.int (q42 - 300), .int (q41 - 300), .ref aT]) hx hb hml hown hts (c_L_low l G cI cJ cZ cO cA e _ (p1 >>> (14 &&& 31)) 1200 hq43) (tb_S kw473 kw474 kw0 kw475) rfl rfl (by decide +kernel) ⟨Nat.le_of_ble_eq_true rfl, Nat.le_of_ble_eq_true rfl⟩ hK hP hD hS hA hE rfl rfl hl.1 (Nat.le_of_ble_eq_true rfl) ⟨Nat.zero_le _, Nat.zero_le _⟩ dL_changes_319 (fun H locs hP hD hS => ?_)
  refine lv_sipush (v := 600) hx hb dL_changes_322 (by decide) ?_
  refine lv_isub hx hb dL_changes_325 ?_
  obtain ⟨q44, hq44, h⟩ := bd_s h
  refine kVi (n := 3) (C := RX4) (ws' := wT aT (aS 0) (aH 0) (aE 0) (aX 0) ++ (wS cI cJ aS pr pu ta se q44.2.1 im su tc sc q44.2.2.1 cn so ++ (wH cI cJ cO aH aK q44.2.2.2.1 q44.2.2.2.2.1 q44.2.2.2.2.2 ++ ([] : va_W)))) (As := [.int (q41 - 300), .int (q42 - 300), .int (q43 - 600)]) (rest := []) hx hb hml hown hts (c_X4_request l G cI cJ cZ cO cA e aT aS aH aE aX aK _ pr pu ta se qu im su tc sc rc cn so hs ol ct (q41 - 300) (q42 - 300) (q43 - 600) hq44) (tb_V kw575 kw576 kw577 kw1 kw578) rfl rfl (by decide +kernel) ⟨Nat.le_of_ble_eq_true rfl, Nat.le_of_ble_eq_true rfl⟩ hK hP hD hS hA hE 0 rfl rfl [0, 1, 2, 3, 4, 5, 6, 7, 8, 9, 10, 11, 12, 13, 14, 15, 16, 17, 18, 19, 20, 21, 22, 23, 24, 25, 26, 27, 28, 29, 30, 31, 32, 33, 34, 35, 36, 37, 38, 39, 40, 41, 42, 43, 44, 45, 46, 47, 48, 49, 50] [] rfl rfl rfl 51 ⟨rfl, rfl⟩ (by decide +kernel) (by decide +kernel) rfl rfl hl.1 (Nat.le_of_ble_eq_true rfl) ⟨Nat.zero_le _, Nat.zero_le _⟩ dL_changes_326 (fun H locs hP hD hS => ?_)
  rw [← Option.some.inj h]
  exact kri hx hb hr hlk rfl rfl hP hD hS hK dL_changes_329

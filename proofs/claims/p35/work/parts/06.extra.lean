/-! the law's own calls: a switch's way out, a static call over cells, the script's reader -/
theorem sw_out {x : Int32} (n : Nat) (hn : n < 2 ^ 31) (h : ∀ j, j ≤ n → ¬ x = Int32.ofNat j) : x.toInt < 0 ∨ (n : Int) < x.toInt := by
  rcases Int.lt_or_le x.toInt 0 with h0 | h0
  · exact Or.inl h0
  · rcases Int.lt_or_le (n : Int) x.toInt with h1 | h1
    · exact Or.inr h1
    · exfalso
      exact h x.toInt.toNat (by omega) (Int32.toInt_inj.mp (show x.toInt = (nI x.toInt.toNat).toInt by rw [nI_toInt (by omega)]; omega))
section KS
variable {p : Program} {l : Launch} {ev : Env} {R : Room} {s : State} {m : MethodId} {args : Array Value} {below : List Frame} {meth : Method} {c : Code} {H : Heap} {locs : List Loc} {Q : State → Prop}
variable {cc : ByteArray} {pc : Nat} {ls : Array Slot} {rest : List Value} {G : va_G} {ty : List (ClassId × FieldType)} {A : Nat → Prop} {ws ws' wc w1 : va_W} {e : Nat × Nat}
variable {own C : String} {index maxL nL n : Nat} {y : MethodName} {bytes : ByteArray} {rm : Room} {b : Nat} {As st0 : List Value} {T : u_T} {N ci cells slots : Nat} {fs : List Value}
theorem kSiC {t : FieldType} {r : Int32} (hx : p.tables.exec = Jvm.exec) (hb : c.code = cc) (hml : c.maxLocals = nL) (hown : s.vm.findClass own = some m.cls) (hts : ∀ w ∈ tb, w.before args s = true) (hM : MetI l y bytes maxL t rm As G ty e wc w1 H.size r) (hg : GoodIn tb (va_wsS own index y (.code y bytes maxL (some t) :: tb))) (hc0 : rm.cells = 0) (hs0 : rm.slots = 0)
    (hd : y.cls ≠ "java/lang/invoke/MethodHandle" ∧ y.cls ≠ "java/lang/invoke/VarHandle" ∧ (parseMethodDescriptor y.desc).map (fun d => d.parameters.length) = some n) (hRm : rm.frames + 1 ≤ R.frames ∧ 8 + (maxL + 11) + rm.locals ≤ R.locals)
    (hK : va_K G vwCl ty s) (hP : va_P G vwCl ws H) (hD : va_D A ws) (hS : va_S A s.heap H locs) (hA : ∀ q : Nat, s.heap.size ≤ q → A q) (hE : Ev e A s s.heap)
    (isC isR : List Nat) (hC : isC.map (fun i => ws[i]?) = wc.map some) (hC2 : isC.map (fun i => ws'[i]?) = w1.map some) (hR : isR.map (fun i => ws'[i]?) = (isR.filterMap (fun i => ws[i]?)).map some) (nw : Nat) (hln : ws'.length = nw ∧ ws.length = nw) (hk : kOk nw isC isR = true) (hnd : va_nd isC = true)
    (hnA : As.length = n) (hst : st0 = As.reverse ++ rest) (hsz : ls.size = nL) (hW : (rest.map fun v => v.category).sum ≤ 8) (hcells : cells + 0 ≤ R.cells ∧ slots + 0 ≤ R.slots) (hdg : decode cc pc = .ok (.invokestatic index, 3))
    (kk : ∀ (H1 : Heap) (locs1 : List Loc), va_P G vwCl ws' H1 → va_D A ws' → va_S A s.heap H1 locs1 → W p l ev R s m args below meth c H1 locs1 cells slots Q (F0 m (pc + 3) ls (.int r :: rest))) : W p l ev R s m args below meth c H locs cells slots Q (F0 m pc ls st0) := by
  have hF := va_free (wc := wc) hD hS hA isC hC
  refine va_calli (va_runS (As := As) (rest := rest) ⟨hx, hb, hml, hown, hts⟩ hM (va_cwS n hts hg rfl hc0 hs0 hd hRm) ⟨g_blind, fun U hU hW => k_pc hK hP hD hS hA hE isC hC hnd hU hW⟩ rfl hnA hsz hst (lv_room hW) hdg hcells) hS (fun q _ h => hF q h) hF (fun rr u t H1 locs1 ht hvm hw hB hz1 hk1 hS1 => ?_)
  obtain ⟨hP1, -, hD1⟩ := hB
  rw [ht] at hP1
  obtain ⟨hP2, hD2⟩ := kjoin (ws' := ws') hP hD isC isR hC hC2 hR nw hln hk hk1 hF hP1 hD1
  subst hw
  exact kk H1 locs1 hP2 hD2 hS1
/-! the script's reader: cell -/
def np (k : Int32) : Bool := decide (¬ k < 0)
theorem np_s {k : Int32} (h : np k = true) : ¬ k < 0 := of_decide_eq_true h
def cellP (xs : Nat → Int32) (L : Nat) (k : Int32) : Int32 := if Int32.ofNat L ≤ k then 7919 * (k + 3) * (k + 11) else xs k.toNatClampNeg
def gPreX (b L : Nat) (xs : Nat → Int32) (G : va_G) (ty : List (ClassId × FieldType)) (e : Nat × Nat) (ws : va_W) (sz : Nat) : State → Prop := fun U => gPre G ty e ws sz U ∧ va_X b L xs U U.heap ∧ b < U.heap.size
theorem gX_blind {b L : Nat} {xs : Nat → Int32} {av : List Value} {G : va_G} {ty : List (ClassId × FieldType)} {e : Nat × Nat} {ws : va_W} {sz : Nat} : FrameBlind (va_Pc av (gPreX b L xs G ty e ws sz)) := by
  intro a U g mk h
  obtain ⟨h0, h1, h2, h3⟩ := h
  exact ⟨(g_blind a U g mk ⟨h0, h1⟩).1, (g_blind a U g mk ⟨h0, h1⟩).2, va_X.moved (u := U) (U := U.calling g mk a) (Vm.Alike.refl U.vm) h2, h3⟩
def MetX (l : Launch) (b L : Nat) (xs : Nat → Int32) (k : Int32) (G : va_G) (ty : List (ClassId × FieldType)) (e : Nat × Nat) (sz : Nat) : Prop := Met l yL_cell (.code yL_cell cL_cell 2 (some .int) :: tb) ({ frames := 0, cells := 0, slots := 0, locals := 0 } : Room) (va_Pc [.ref b, .int k] (gPreX b L xs G ty e [] sz)) (qI G ty (va_A [] sz) [] (cellP xs L k)) 0 0 (va_A [] sz)
theorem c_L_cell (l : Launch) (G : va_G) (cI cJ cZ cO cA : ClassId) (e : Nat × Nat) (sz : Nat) (b L : Nat) (xs : Nat → Int32) (hL : L ≤ 260) (k : Int32) (hk : ¬ k < 0) : MetX l b L xs k G (ty5 cI cJ cZ cO cA) e sz := by
  refine Met.ofW (cc := cL_cell) (maxL := 2) (ret := some .int) (by decide) rfl ?_
  intro p ev s m args below meth c s₁ B hml hv
  obtain ⟨rfl, ⟨hsz, hP, hK, hD0, hE⟩, hX, hbl⟩ := hv
  have hts0 := atoms_spec (ws := .code yL_cell cL_cell 2 (some .int) :: tb) B.pre
  have hts : ∀ w ∈ tb, w.before ([.ref b, .int k] : List Value).toArray s = true := fun w hw => hts0 w (List.mem_cons_of_mem _ hw)
  have hown : s.vm.findClass RL = some m.cls := findClass_of_methodNamed B.named
  subst hsz
  rw [lg_entry_eq]
  have hx := B.exec
  have hb := B.bytes
  have hr := B.returns
  have hlk := B.notSynchronized
  have hD : va_D (va_A [] s.heap.size) [] := hD0.self
  have hS : va_S (va_A [] s.heap.size) s.heap s.heap [] := va_S.rf
  have hbA : ¬ (va_A [] s.heap.size) b := by
    rintro (⟨k, e2, h⟩ | h)
    · cases h
    · exact absurd hbl (Nat.not_lt.mpr h)
  have hl0 := lv_entry ([.ref b, .int k]) (n := 2) (Nat.le_of_ble_eq_true rfl)
  generalize (lg_sl ([.ref b, .int k]) ++ List.replicate (2 - (lg_sl ([.ref b, .int k])).length) Slot.unset).toArray = ls at hl0 ⊢
  have hl : lv_has ls 2 [(0, .ref b), (1, .int k)] := hl0
  show W p l ev ({ frames := 0, cells := 0, slots := 0, locals := 0 } : Room) s m ([.ref b, .int k] : List Value).toArray below meth c s.heap [] 0 0 (MQ below (qI G (ty5 cI cJ cZ cO cA) (va_A [] s.heap.size) [] (cellP xs L k)) ([.ref b, .int k] : List Value).toArray s 0 0 (va_A [] s.heap.size)) (F0 m 0 ls [])
  refine lv_iload_n hx hb dL_cell_0 rfl (lv_at hl 1 rfl) ?_
  refine lv_aload_n hx hb dL_cell_1 rfl (lv_at hl 0 rfl) ?_
  refine va_slen hx hb hX hbl hbA hS dL_cell_2 ?_
  refine lv_icmp_ge (tgt := 12) hx hb dL_cell_3 (by decide) (fun c1 => ?_) (fun c1 => ?_)
  · refine lv_sipush (v := 7919) hx hb dL_cell_12 (by decide) ?_
    refine lv_iload_n hx hb dL_cell_15 rfl (lv_at hl 1 rfl) ?_
    refine lv_iconst (v := 3) hx hb dL_cell_16 (by decide) ?_
    refine lv_iadd hx hb dL_cell_17 ?_
    refine lv_imul hx hb dL_cell_18 ?_
    refine lv_iload_n hx hb dL_cell_19 rfl (lv_at hl 1 rfl) ?_
    refine lv_bipush (v := 11) hx hb dL_cell_20 (by decide) ?_
    refine lv_iadd hx hb dL_cell_22 ?_
    refine lv_imul hx hb dL_cell_23 ?_
    exact kri hx hb hr hlk rfl (if_pos c1).symm hP hD hS hK dL_cell_24
  · have hin : vp_in k L := by
      rintro (h | h)
      · exact hk h
      · apply c1
        have e1 : k.toNatClampNeg = k.toInt.toNat := rfl
        rw [e1] at h
        have hk2 := hk
        rw [Int32.lt_iff_toInt_lt, show (0 : Int32).toInt = 0 from by decide] at hk2
        show nI L ≤ k
        rw [Int32.le_iff_toInt_le, nI_toInt (by omega)]
        omega
    refine lv_aload_n hx hb dL_cell_6 rfl (lv_at hl 0 rfl) ?_
    refine lv_iload_n hx hb dL_cell_7 rfl (lv_at hl 1 rfl) ?_
    refine va_sld hx hb hX hbl hbA hS hin dL_cell_8 ?_
    refine lv_goto (tgt := 24) hx hb dL_cell_9 (by decide) ?_
    exact kri hx hb hr hlk rfl (if_neg c1).symm hP hD hS hK dL_cell_24
theorem kSx {L : Nat} {xs : Nat → Int32} {k : Int32} (hx : p.tables.exec = Jvm.exec) (hb : c.code = cc) (hml : c.maxLocals = nL) (hown : s.vm.findClass own = some m.cls) (hts : ∀ w ∈ tb, w.before args s = true) (hX : va_X b L xs s s.heap) (hbl : b < s.heap.size) (hbA : ¬ A b) (hM : MetX l b L xs k G ty e H.size) (hg : GoodIn tb (va_wsS own index yL_cell (.code yL_cell cL_cell 2 (some .int) :: tb)))
    (hd : yL_cell.cls ≠ "java/lang/invoke/MethodHandle" ∧ yL_cell.cls ≠ "java/lang/invoke/VarHandle" ∧ (parseMethodDescriptor yL_cell.desc).map (fun d => d.parameters.length) = some n) (hRm : 0 + 1 ≤ R.frames ∧ 8 + (2 + 11) + 0 ≤ R.locals)
    (hK : va_K G vwCl ty s) (hP : va_P G vwCl ws H) (hD : va_D A ws) (hS : va_S A s.heap H locs) (hA : ∀ q : Nat, s.heap.size ≤ q → A q) (hE : Ev e A s s.heap)
    (hnA : ([.ref b, .int k] : List Value).length = n) (hst : st0 = ([.ref b, .int k] : List Value).reverse ++ rest) (hsz : ls.size = nL) (hW : (rest.map fun v => v.category).sum ≤ 8) (hcells : cells + 0 ≤ R.cells ∧ slots + 0 ≤ R.slots) (hdg : decode cc pc = .ok (.invokestatic index, 3))
    (kk : ∀ (H1 : Heap) (locs1 : List Loc), va_P G vwCl ws H1 → va_D A ws → va_S A s.heap H1 locs1 → W p l ev R s m args below meth c H1 locs1 cells slots Q (F0 m (pc + 3) ls (.int (cellP xs L k) :: rest))) : W p l ev R s m args below meth c H locs cells slots Q (F0 m pc ls st0) := by
  have hF := va_free (wc := []) hD hS hA [] rfl
  refine va_calli (va_runS (As := [.ref b, .int k]) (rest := rest) ⟨hx, hb, hml, hown, hts⟩ hM (va_cwS n hts hg rfl rfl rfl hd hRm) ⟨gX_blind, fun U hU hW => ⟨rfl, (k_pc (av := [.ref b, .int k]) hK hP hD hS hA hE [] rfl rfl hU hW).2, by rw [hU]; exact (hX.kept (hS.2.1 b hbl hbA)).moved hW.alike, by rw [hU]; exact Nat.lt_of_lt_of_le hbl hS.1⟩⟩ rfl hnA hsz hst (lv_room hW) hdg hcells) hS (fun q _ h => hF q h) hF (fun rr u t H1 locs1 ht hvm hw hB hz1 hk1 hS1 => ?_)
  subst hw
  refine kk H1 locs1 (hP.kept (fun k q hq => hk1 q.1 (hP k q hq).lt (fun h => ?_))) hD hS1
  rcases h with ⟨k, e2, h⟩ | h
  · cases h
  · have := (hP k q hq).lt
    omega
end KS

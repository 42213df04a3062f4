theorem nw_lw : ∀ q ∈ nwF, Cond.fieldLinkNest q.1 q.2.1 q.2.2.1 q.2.2.2.1 q.2.2.2.2.1 q.2.2.2.2.2 ∈ lw_tbl := by decide +kernel
theorem arr_prim {s : State} {args : Array Value} {t : FieldType} (h : (Cond.arrayClass t).before args s = true) : ∃ c, ArrOfT s c t ∧ s.vm.findClass ("[" ++ t.toString) = some c := by
  obtain ⟨c, k, comp, h1, h2, h3⟩ := Cond.arrayClass_spec h
  exact ⟨c, fun n z => ⟨fun k h => (by cases h), k, h2, comp, h3⟩, h1⟩
set_option maxHeartbeats 4000000 in
set_option maxRecDepth 100000 in
theorem whole_start {p : Program} {ev : Env} {s : State} {m : MethodId} {below : List Frame} {meth : Method} {c : Code} (l : Launch) (hflags : l.flags = flags0) {b L : Nat} {xs : Nat → Int32} (hL : L ≤ 260) (C0 : lw_At p s m meth c b L xs) : W p l ev room_1 s m #[Value.ref b] below meth c s.heap [] 0 0 (lw_Z below #[Value.ref b] s) (entryFrame m ([Value.ref b] : List Value).toArray 14) := by
  obtain ⟨hx, hb, hr, hml, hown, hts0, hX, hbl, hlocks, hgv⟩ := id C0
  have hts : ∀ w ∈ tb, w.before #[Value.ref b] s = true := fun w h => hts0 w (tb_lw w h)
  have hA : ∀ q : Nat, s.heap.size ≤ q → (fun q : Nat => s.heap.size ≤ q) q := fun _ h => h
  have hbA : ¬ (fun q : Nat => s.heap.size ≤ q) b := Nat.not_le.mpr hbl
  obtain ⟨cX0, iX0, hnX0⟩ := u_known (C := RX0) (T := TX0) (N := 3) (n := 3) hts uX0 (hts _ kw78)
  obtain ⟨cX1, iX1, hnX1⟩ := u_known (C := RX1) (T := TX1) (N := 8) (n := 8) hts uX1 (hts _ kw98)
  obtain ⟨cX2, iX2, hnX2⟩ := u_known (C := RX2) (T := TX2) (N := 12) (n := 12) hts uX2 (hts _ kw19)
  obtain ⟨cX3, iX3, hnX3⟩ := u_known (C := RX3) (T := TX3) (N := 7) (n := 7) hts uX3 (hts _ kw133)
  obtain ⟨cX4, iX4, hnX4⟩ := u_known (C := RX4) (T := TX4) (N := 4) (n := 4) hts uX4 (hts _ kw11)
  obtain ⟨G, hKc⟩ : ∃ (G : va_G), ∀ (k : Nat) (q : vw_C), vwCl[k]? = some q → u_Kn s q.1 q.2.1 q.2.2 (G.1 k) (G.2 k) := by
    refine ⟨(fun k => match k with | 0 => cX0 | 1 => cX1 | 2 => cX2 | 3 => cX3 | _ => cX4, fun k => match k with | 0 => iX0 | 1 => iX1 | 2 => iX2 | 3 => iX3 | _ => iX4), ?_⟩
    intro k q hq
    match k, hq with
    | 0, hq => cases hq; exact hnX0
    | 1, hq => cases hq; exact hnX1
    | 2, hq => cases hq; exact hnX2
    | 3, hq => cases hq; exact hnX3
    | 4, hq => cases hq; exact hnX4
    | k + 5, hq => simp [vwCl] at hq
  obtain ⟨cI, aI, fI⟩ := arr_prim (hts _ kw75)
  obtain ⟨cJ, aJ, fJ⟩ := arr_prim (hts _ kw76)
  obtain ⟨cZ, aZ, fZ⟩ := arr_prim (hts _ kw164)
  have hov1 : (Cond.arrayOver (.object "ThrusterSelector$State")).before #[Value.ref b] s = true := hts0 _ (by decide +kernel)
  have hov2 : (Cond.arrayOver (.array .int)).before #[Value.ref b] s = true := hts0 _ (by decide +kernel)
  obtain ⟨co1, cO, kO, o1, o2, o3, o4, o5⟩ := Cond.arrayOver_spec hov1
  obtain ⟨co2, cA, kA, p1, p2, p3, p4, p5⟩ := arrayOver_specB hov2
  have hK : va_K G vwCl (ty5 cI cJ cZ cO cA) s := by
    refine ⟨hKc, fun k q hq => ?_⟩
    match k, hq with
    | 0, hq => cases hq; exact ⟨aI, fI⟩
    | 1, hq => cases hq; exact ⟨aJ, fJ⟩
    | 2, hq => cases hq; exact ⟨aZ, fZ⟩
    | 3, hq => cases hq; exact ⟨fun n z => ⟨fun k h => (by cases h), kO, o3, co1, o4⟩, kO, co1, o3, o4, o1, o5⟩
    | 4, hq => cases hq; exact ⟨fun n z => ⟨fun k h => (by cases h), kA, p3, co2, p4⟩, p5⟩
    | k + 5, hq => simp [ty5] at hq
  have hgs := flat_of_before _ hgv
  have hA0 : ∀ a : Nat, a < s.heap.size → ¬ (fun q : Nat => s.heap.size ≤ q) a := fun a h1 h2 => absurd h1 (Nat.not_lt.mpr h2)
  obtain ⟨eX, heX, hTX⟩ := va_Tof (tm := .static "ThrusterSelector" "DIRECTION_X" "[I") (ty := .int) (N := 4) (f := dxF) (A := (fun q : Nat => s.heap.size ≤ q)) (by decide) (hgs _ (by decide +kernel)) (va_eqt (hgs (Cond.eq (.length (.static "ThrusterSelector" "DIRECTION_X" "[I")) (.int 4)) (by decide +kernel))) (fun j hj => by
    match j, hj with
    | 0, _ => exact va_eqt (hgs (Cond.eq (.elem (.static "ThrusterSelector" "DIRECTION_X" "[I") (.int 0)) (.int (1))) (by decide +kernel))
    | 1, _ => exact va_eqt (hgs (Cond.eq (.elem (.static "ThrusterSelector" "DIRECTION_X" "[I") (.int 1)) (.int (0))) (by decide +kernel))
    | 2, _ => exact va_eqt (hgs (Cond.eq (.elem (.static "ThrusterSelector" "DIRECTION_X" "[I") (.int 2)) (.int (-1))) (by decide +kernel))
    | 3, _ => exact va_eqt (hgs (Cond.eq (.elem (.static "ThrusterSelector" "DIRECTION_X" "[I") (.int 3)) (.int (0))) (by decide +kernel))
    | j + 4, h => exact absurd h (by omega)) hA0
  have hZX := va_Zref (A := (fun q : Nat => s.heap.size ≤ q)) (hts0 (Cond.laysStatic "ThrusterSelector" "DIRECTION_X" "[I") (by decide +kernel)) (hts _ kw1) heX hA0
  skip
  obtain ⟨eY, heY, hTY⟩ := va_Tof (tm := .static "ThrusterSelector" "DIRECTION_Y" "[I") (ty := .int) (N := 4) (f := dyF) (A := (fun q : Nat => s.heap.size ≤ q)) (by decide) (hgs _ (by decide +kernel)) (va_eqt (hgs (Cond.eq (.length (.static "ThrusterSelector" "DIRECTION_Y" "[I")) (.int 4)) (by decide +kernel))) (fun j hj => by
    match j, hj with
    | 0, _ => exact va_eqt (hgs (Cond.eq (.elem (.static "ThrusterSelector" "DIRECTION_Y" "[I") (.int 0)) (.int (0))) (by decide +kernel))
    | 1, _ => exact va_eqt (hgs (Cond.eq (.elem (.static "ThrusterSelector" "DIRECTION_Y" "[I") (.int 1)) (.int (1))) (by decide +kernel))
    | 2, _ => exact va_eqt (hgs (Cond.eq (.elem (.static "ThrusterSelector" "DIRECTION_Y" "[I") (.int 2)) (.int (0))) (by decide +kernel))
    | 3, _ => exact va_eqt (hgs (Cond.eq (.elem (.static "ThrusterSelector" "DIRECTION_Y" "[I") (.int 3)) (.int (-1))) (by decide +kernel))
    | j + 4, h => exact absurd h (by omega)) hA0
  have hZY := va_Zref (A := (fun q : Nat => s.heap.size ≤ q)) (hts0 (Cond.laysStatic "ThrusterSelector" "DIRECTION_Y" "[I") (by decide +kernel)) (hts _ kw1) heY hA0
  have hE : Ev (eX, eY) (fun q : Nat => s.heap.size ≤ q) s s.heap := ⟨fun q hq => va_Nw.of rfl (hts0 _ (nw_lw q hq)), hZX, hZY, hTX, hTY⟩
  have hXw : Xw s := ⟨va_AO.of hov1, hov2, va_Nw.of rfl (hts0 _ (by decide +kernel)), va_Nw.of rfl (hts0 _ (by decide +kernel))⟩
  have hS : va_S (fun q : Nat => s.heap.size ≤ q) s.heap s.heap [] := va_S.rf
  have hP : va_P G vwCl [] s.heap := fun k q h => by simp at h
  have hD : va_D (fun q : Nat => s.heap.size ≤ q) [] := ⟨fun i j p q h => by simp at h, fun k q h => by simp at h⟩
  have hl := lv_entry ([.ref b]) (n := 14) (Nat.le_of_ble_eq_true rfl)
  rw [lg_entry_eq]
  generalize (lg_sl ([.ref b]) ++ List.replicate (14 - (lg_sl ([.ref b])).length) Slot.unset).toArray = ls at hl ⊢
  have hl : lv_has ls 14 [(0, .ref b)] := hl
  refine va_new (ci := 4) (fs := [.null, .null, .null, .null]) (C := RX4) (T := TX4) (N := 4) hx hb hts uX4 tyX4 tyX4_ok hown (hts _ kw10) (hts _ kw11) (hts _ kw1) hK hP hD hS hA rfl (fun j hj => by match j, hj with | 0, _ => rfl | 1, _ => rfl | 2, _ => rfl | 3, _ => rfl) (Nat.le_of_ble_eq_true rfl) (Nat.le_of_ble_eq_true rfl) dL_law_0 (fun q1 H hP hD hS => ?_)
  have hP : va_P G vwCl ([(q1, .inr (4, [.null, .null, .null, .null]))]) H := hP
  have hD : va_D (fun q : Nat => s.heap.size ≤ q) ([(q1, .inr (4, [.null, .null, .null, .null]))]) := hD
  refine lv_dup hx hb dL_law_3 rfl ?_
  refine kIC (wr := []) (va_runI (As := []) (rest := [.ref q1]) ⟨hx, hb, hml, hown, hts⟩ (c_X4_init l G cI cJ cZ cO cA (eX, eY) q1 _) (cwI 0 hts (tb_I kw14) rfl rfl rfl (hts _ kw1) (hts _ kw12) (hts _ kw13) rfl (by decide +kernel) ⟨Nat.le_of_ble_eq_true rfl, Nat.le_of_ble_eq_true rfl⟩) ⟨gC_blind, fun U hU hW => kC_pc hK hP hD hS hA hE hXw [0] rfl rfl hU hW⟩ rfl rfl hl.1 rfl (lv_room (Nat.le_of_ble_eq_true rfl)) dL_law_4 ⟨Nat.le_of_ble_eq_true rfl, Nat.le_of_ble_eq_true rfl⟩) hP hD hS hA [0] [] rfl rfl (by decide +kernel) (by decide +kernel) (fun x1 H locs okx1 hP2 hD2 hS2 => ?_)
  clear hP hD hS
  obtain rfl := okx1
  have hP := hP2
  have hD := hD2
  have hS := hS2
  have hP : va_P G vwCl (wE cI cJ cA x1.2.2.2.1.1 x1.2.2.2.1.2 (fun _ => (fun _ => 0)) (fun _ => 0) (fun _ => 0) 1 0 0 0 0 ++ (wT x1.1 (x1.2.1 0) (x1.2.2.1.1 0) (x1.2.2.2.1.1 0) (x1.2.2.2.2 0) ++ (wS cI cJ x1.2.1 (fun _ => 0) (fun _ => 0) taF (fun _ => 0) (fun _ => 0) (fun _ => 0) (fun _ => 0) 0 0 0 0 0 ++ (wX cI cZ x1.2.2.2.2 (fun _ => 0) (fun _ => 0) (fun _ => 0) 0 0 0 (-2000000000) ++ (wH cI cJ cO x1.2.2.1.1 x1.2.2.1.2 (fun _ => sv0) 0 0 ++ ([] : va_W)))))) H := hP
  have hD : va_D (fun q : Nat => s.heap.size ≤ q) (wE cI cJ cA x1.2.2.2.1.1 x1.2.2.2.1.2 (fun _ => (fun _ => 0)) (fun _ => 0) (fun _ => 0) 1 0 0 0 0 ++ (wT x1.1 (x1.2.1 0) (x1.2.2.1.1 0) (x1.2.2.2.1.1 0) (x1.2.2.2.2 0) ++ (wS cI cJ x1.2.1 (fun _ => 0) (fun _ => 0) taF (fun _ => 0) (fun _ => 0) (fun _ => 0) (fun _ => 0) 0 0 0 0 0 ++ (wX cI cZ x1.2.2.2.2 (fun _ => 0) (fun _ => 0) (fun _ => 0) 0 0 0 (-2000000000) ++ (wH cI cJ cO x1.2.2.1.1 x1.2.2.1.2 (fun _ => sv0) 0 0 ++ ([] : va_W)))))) := hD
  refine lv_astore_n (lv' := [(1, .ref x1.1), (0, .ref b)]) hx hb dL_law_7 rfl hl (by decide) rfl (fun ls hl => ?_)
  refine W.widen (k := 600000) (n := 7302250) (Nat.le_of_ble_eq_true rfl) (Nat.le_of_ble_eq_true rfl) ?_
  exact law_body l hL C0 rfl (aE := x1.2.2.2.1.1) (aR := x1.2.2.2.1.2) (aT := x1.1) (aS := x1.2.1) (aX := x1.2.2.2.2) (aH := x1.2.2.1.1) (aK := x1.2.2.1.2) hK hE _ _ _ _ _ _ _ _ _ _ _ _ _ _ _ _ _ _ _ _ _ _ _ _ _ _ _ _ _ _ hP hD hS hl (law_ok xs L)
-- ===== YOUR PART ENDS =====
set_option maxHeartbeats 4000000 in
theorem lw_walk (l : Launch) (hflags : l.flags = flags0) (b : Addr) (xs : List Int32) : MetFree l x (headSpec (Jvm.Cond.code x code maxLocals ret :: tables_1) room_1) (lw_P b xs) (fun _ _ _ _ _ => True) lw_Q := by
  refine MetFree.of_bodyS (code := code) (maxLocals := maxLocals) (ret := ret) (by decide) ?_ ?_
  · intro args s m h hn
    obtain ⟨meth, c, h1, h2, h3, h4, h5, h6, -, -⟩ := Cond.code_spec hn (atoms_spec (ws := Jvm.Cond.code x code maxLocals ret :: tables_1) h _ List.mem_cons_self)
    exact ⟨meth, c, h1, h2, h3, h4, h5, h6⟩
  · intro p e s m args below meth c s₁ B hml0 hP _
    obtain ⟨rfl, hx, hbd, hgv⟩ := hP
    obtain ⟨scr, harrAt, hlist, hof, hsmall⟩ := hx
    obtain ⟨hcb, hkn, -, -⟩ := State.arrayAt?_spec harrAt
    have hown : s.vm.findClass R_law = some m.cls := findClass_of_methodNamed B.named
    have hts0 : ∀ c ∈ (Jvm.Cond.code x code maxLocals ret :: tables_1), c.before #[Value.ref b] s = true := atoms_spec (ws := Jvm.Cond.code x code maxLocals ret :: tables_1) B.pre
    have hts : ∀ w ∈ lw_tbl, w.before #[Value.ref b] s = true := k2_hts_sels lw_privs (fun w hw => hts0 w (List.mem_cons_of_mem _ hw)) lw_privs_ok
    have hml : c.maxLocals = 14 := B.maxLocals_eq (hts0 _ List.mem_cons_self)
    have X₀ : Stand p l e room_1 s m #[Value.ref b] below meth c s₁ [] 0 0 := Stand.of_body B
    have hh0 : s₁.heap = s.heap := by rw [B.state]; rfl
    have hsz : scr.slots.size = xs.length := by rw [← Array.length_toList, hlist, List.length_map]
    have hval : ∀ j : Nat, j < xs.length → scr.slots[j]? = some (.int (xs.getD j 0)) := fun j hj => by
      rw [← Array.getElem?_toList, hlist]
      simp [hj]
    have hbl : b < s.heap.size := (Array.getElem?_eq_some_iff.mp hcb).1
    have hX : va_X b xs.length (fun j => xs.getD j 0) s s.heap := ⟨scr, hcb, hof, hkn, hsz, hval⟩
    have K : W p l e room_1 s m #[Value.ref b] below meth c s₁.heap [] 0 0 (lw_Z below #[Value.ref b] s) (entryFrame m ([Value.ref b] : List Value).toArray 14) := by
      rw [hh0]
      exact whole_start l hflags hbd ⟨B.exec, B.bytes, B.returns, hml, hown, hts, hX, hbl, B.notSynchronized, hgv⟩
    obtain ⟨t, a1, o, b1, b2, b3⟩ := K s₁ rfl X₀
    exact ⟨t, o, a1, b1, b2, b3⟩
theorem lw_pre_spec {args : Array Value} {s : State} (h : (Jvm.Cond.and given_1 narrow_1).before args s = true) (hr : rest_1_c.before args s = true) : ∃ (b : Addr) (xs : List Int32), lw_P b xs args s := by
  have hs := flat_of_before _ h
  have hq := flat_of_before _ hr
  have hc : (Cond.count 1).before args s = true := hs _ (by decide +kernel)
  have harr : (Cond.arrayOf (.arg 0) .int).before args s = true := hs _ (by decide +kernel)
  have hle : (Cond.le (.length (.arg 0)) (.int 260)).before args s = true := hs _ (by decide +kernel)
  have hlen : (Cond.isInt (.length (.arg 0))).before args s = true := hq _ (by decide +kernel)
  have hall : (Cond.all (.arg 0) (.isInt (.elem (.arg 0) (.index 0)))).before args s = true := hq _ (by decide +kernel)
  obtain ⟨b, xs, hb, hx⟩ := State.ints_of_pre rfl harr hlen hall
  have hsm : xs.length < 2 ^ 31 := hx.choose_spec.2.2.2
  have hev : (Term.length (.arg 0)).eval args s none [] s = some (.int xs.length.toInt32) := hx.length_eval hb
  have hv := Cond.le_ints hev (show (Term.int 260).eval args s none [] s = some (.int 260) from rfl)
  have hd : xs.length.toInt32 ≤ 260 := by
    simpa [Cond.before, Cond.holds, hv] using hle
  have hN : xs.length ≤ 260 := (Int32.ofNat_le_ofNat hsm (by decide)).mp (show Int32.ofNat xs.length ≤ Int32.ofNat 260 from hd)
  exact ⟨b, xs, Cond.one_arg hc (show args[0]? = some (.ref b) from hb), hx, hN, h⟩
theorem lw_comes (l : Launch) (hflags : l.flags = flags0) : Comes l x (Jvm.Cond.code x code maxLocals ret :: tables_1) room_1 (fun tb e args s => Calls_1 tb e args s ∧ rest_1 tb e args s ∧ Pre_1 tb e args s)
    (fun _ _ args s o t => lw_Q args s o t) := by
  intro p e ha hc hk s m args below hf hfit hheap happ hpre
  obtain ⟨b, xs, hP⟩ := lw_pre_spec hpre.2.2 hpre.2.1
  obtain ⟨k, o, h1, h2, h3, hQ⟩ := lw_walk l hflags b xs p e ha hc hk s m args below hf ((Spec.applies_iff_loose hf).mp happ).1 hP trivial
  exact ⟨k, o, h1, h2, h3, hQ⟩
theorem lw_frame {s t : State} {o : Outcome} {args : Array Value} (h : Framed s o t [] 600000 7302250) :
    Framed s o t (fieldLocs frame_1_writes args s ++ arrayLocs frame_1_arrays args s ++ staticLocs frame_1_statics s) 600000 7302250 := h
theorem lw_limb (L : Cond) (hL : ∀ (args : Array Value) (s t : State), L.after args s (.returned (some (.int 1))) t = true) :
    ArmFor flags0 classFile x code maxLocals ret World_1 tables_1 room_1 Calls_1 rest_1 Pre_1
      (fun tb e a s o t => postC L tb e a s o t ∧ Framed s o t (fieldLocs frame_1_writes a s ++ arrayLocs frame_1_arrays a s ++ staticLocs frame_1_statics s) 600000 7302250) := by
  intro l hflags _ _ p e ha hc hk s m args below hf hfit hheap happ hpre
  obtain ⟨k, o, h1, h2, h3, rfl, hF⟩ := lw_comes l hflags p e ha hc hk s m args below hf hfit hheap happ hpre
  exact ⟨k, _, h1, h2, h3, hL args s _, lw_frame hF⟩
theorem i_vc : Claimed_1_1 ∧ Claimed_1_2 := ⟨lw_limb limb_1_1 (fun args s t => by simp [limb_1_1, Cond.after, Cond.holds, Cond.value]), lw_limb limb_1_2 (fun args s t => Cond.after_iff.mpr (by
  first | (rw [show limb_1_2 = Cond.eq .result (.int 1) from rfl, Cond.eq_ints (x := 1) (y := 1) rfl rfl]; simp; done) | (simp [limb_1_2, Cond.value, Term.eval]; done)))⟩

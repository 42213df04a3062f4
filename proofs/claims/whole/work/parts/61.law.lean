theorem nw_lw : ∀ q ∈ nwF, Cond.fieldLinkNest q.1 q.2.1 q.2.2.1 q.2.2.2.1 q.2.2.2.2.1 q.2.2.2.2.2 ∈ lw_tbl := by decide +kernel
theorem law_in {L i : Nat} (hL : L ≤ 3584) (hi : i ≤ L + 7) (h : ¬ (Int32.ofNat L - 7) < nI i) : i + 7 ≤ L := by
  have h1 : Int32.ofNat L - 7 = nI L - nI 7 := rfl
  rw [h1, Int32.lt_iff_toInt_lt, pk_sub_toInt (by omega) (by omega), nI_toInt (by omega)] at h
  omega
theorem arr_prim {s : State} {args : Array Value} {t : FieldType} (h : (Cond.arrayClass t).before args s = true) : ∃ c, ArrOfT s c t ∧ s.vm.findClass ("[" ++ t.toString) = some c := by
  obtain ⟨c, k, comp, h1, h2, h3⟩ := Cond.arrayClass_spec h
  exact ⟨c, fun n z => ⟨fun k h => (by cases h), k, h2, comp, h3⟩, h1⟩
set_option maxHeartbeats 4000000 in
set_option maxRecDepth 100000 in
theorem law_loop {p : Program} {ev : Env} {s : State} {m : MethodId} {below : List Frame} {meth : Method} {c : Code} (l : Launch) {b L : Nat} {xs : Nat → Int32} (hL : L ≤ 3584) (C0 : lw_At p s m meth c b L xs) {G : va_G} {cI cJ cZ cO cA : ClassId} {e : Nat × Nat} {aE : Nat → Nat} {aR : Nat → Nat} {aT : Nat} {aS : Nat → Nat} {aX : Nat → Nat} {aH : Nat → Nat} {aK : Nat → Nat → Nat} {aM : Nat → Nat} (hK : va_K G vwCl (ty5 cI cJ cZ cO cA) s) (hE : Ev e (fun q : Nat => s.heap.size ≤ q) s s.heap) : ∀ (n i : Nat), i ≤ L + 7 → L + 7 - i < n → ∀ (un : Nat → Nat → Int32) (tp : Nat → Int32) (sh : Nat → Int64) (de : Int64) (co : Int64) (ma : Int32) (ru : Int32) (fo : Int32) (pr : Nat → Int32) (pu : Nat → Int32) (ta : Nat → Int32) (se : Nat → Int32) (qu : Nat → Int32) (im : Nat → Int32) (su : Nat → Int64) (tc : Int32) (sc : Int32) (rc : Int32) (cn : Int32) (so : Int32) (bt : Nat → Int32) (pa : Nat → Int32) (ug : Nat → Int32) (le : Int32) (rn : Int32) (ax : Int32) (fa : Int32) (hs : Nat → SV) (ol : Int32) (ct : Int32) (row : Nat → Int32) (tot : Nat → Int64) (tab : Nat → Int64) (goa : Nat → Int64) (bes : Nat → Int64) (tic : Nat → Int64) (txt : Nat → Int32) (par : Nat → Int32) (sav : Int32) (bwh : Int64) (bpr : Int64) (bse : Int32) (len : Int32) (mat : Int32) (ask : Int32) (hh : Int64) (H : Heap) (locs : List Loc) (ls : Array Slot), Inv pr pu ta se qu im su tc sc rc cn so hs ol ct bt le row tot sav txt len → va_P G vwCl (wE cI cJ cA aE aR un tp sh de co ma ru fo ++ (wT aT (aS 0) (aH 0) (aE 0) (aX 0) ++ (wS cI cJ aS pr pu ta se qu im su tc sc rc cn so ++ (wX cI cZ aX bt pa ug le rn ax fa ++ (wH cI cJ cO aH aK hs ol ct ++ (wM cI cJ aM row tot tab goa bes tic txt par sav bwh bpr bse len mat ask hh ++ ([] : va_W))))))) H → va_D (fun q : Nat => s.heap.size ≤ q) (wE cI cJ cA aE aR un tp sh de co ma ru fo ++ (wT aT (aS 0) (aH 0) (aE 0) (aX 0) ++ (wS cI cJ aS pr pu ta se qu im su tc sc rc cn so ++ (wX cI cZ aX bt pa ug le rn ax fa ++ (wH cI cJ cO aH aK hs ol ct ++ (wM cI cJ aM row tot tab goa bes tic txt par sav bwh bpr bse len mat ask hh ++ ([] : va_W))))))) → va_S (fun q : Nat => s.heap.size ≤ q) s.heap H locs → lv_has ls 4 [(3, .int (nI i)), (2, .ref (aM 0)), (1, .ref aT), (0, .ref b)] → W p l ev room_1 s m #[Value.ref b] below meth c H locs 600000 7302250 (lw_Z below #[Value.ref b] s) (F0 m 18 ls []) := by
  obtain ⟨hx, hb, hr, hml, hown, hts0, hX, hbl, hlocks, hgv⟩ := id C0
  have hA : ∀ q : Nat, s.heap.size ≤ q → (fun q : Nat => s.heap.size ≤ q) q := fun _ h => h
  have hbA : ¬ (fun q : Nat => s.heap.size ≤ q) b := Nat.not_le.mpr hbl
  intro n
  induction n with
  | zero => intro i _ h; omega
  | succ n ih =>
    intro i hiL hn un tp sh de co ma ru fo pr pu ta se qu im su tc sc rc cn so bt pa ug le rn ax fa hs ol ct row tot tab goa bes tic txt par sav bwh bpr bse len mat ask hh H locs ls hI hP hD hS hl
    refine lv_iload_n hx hb dL_law_18 rfl (lv_at hl 0 rfl) ?_
    refine lv_aload_n hx hb dL_law_19 rfl (lv_at hl 3 rfl) ?_
    refine va_slen hx hb hX hbl hbA hS dL_law_20 ?_
    refine lv_bipush (v := 7) hx hb dL_law_21 (by decide) ?_
    refine lv_isub hx hb dL_law_23 ?_
    refine lv_icmp_gt (tgt := 1092) hx hb dL_law_24 (by decide) (fun c9 => ?_) (fun c9 => ?_)
    · refine lv_iconst (v := 1) hx hb dL_law_1092 (by decide) ?_
      refine va_forget hS.2.2 ?_
      exact lw_ret hx hb hr hlocks dL_law_1093
    · have hi : i + 7 ≤ L := law_in hL hiL c9
      have h_0 : vp_in (nI i) L := pk_in i L (by omega) rfl
      refine lv_aload_n hx hb dL_law_27 rfl (lv_at hl 3 rfl) ?_
      refine lv_iload_n hx hb dL_law_28 rfl (lv_at hl 0 rfl) ?_
      refine va_sld hx hb hX hbl hbA hS h_0 dL_law_29 ?_
      refine lv_bipush (v := 31) hx hb dL_law_30 (by decide) ?_
      refine lv_iand hx hb dL_law_32 ?_
      obtain ⟨j, hj, ej⟩ := pk_andE (xs (nI i).toNatClampNeg) (m := 31) 5 (by decide)
      rw [ej]
      have kk : ∀ (un : Nat → Nat → Int32) (tp : Nat → Int32) (sh : Nat → Int64) (de : Int64) (co : Int64) (ma : Int32) (ru : Int32) (fo : Int32) (pr : Nat → Int32) (pu : Nat → Int32) (ta : Nat → Int32) (se : Nat → Int32) (qu : Nat → Int32) (im : Nat → Int32) (su : Nat → Int64) (tc : Int32) (sc : Int32) (rc : Int32) (cn : Int32) (so : Int32) (bt : Nat → Int32) (pa : Nat → Int32) (ug : Nat → Int32) (le : Int32) (rn : Int32) (ax : Int32) (fa : Int32) (hs : Nat → SV) (ol : Int32) (ct : Int32) (row : Nat → Int32) (tot : Nat → Int64) (tab : Nat → Int64) (goa : Nat → Int64) (bes : Nat → Int64) (tic : Nat → Int64) (txt : Nat → Int32) (par : Nat → Int32) (sav : Int32) (bwh : Int64) (bpr : Int64) (bse : Int32) (len : Int32) (mat : Int32) (ask : Int32) (hh : Int64) (H : Heap) (locs : List Loc), Inv pr pu ta se qu im su tc sc rc cn so hs ol ct bt le row tot sav txt len → va_P G vwCl (wE cI cJ cA aE aR un tp sh de co ma ru fo ++ (wT aT (aS 0) (aH 0) (aE 0) (aX 0) ++ (wS cI cJ aS pr pu ta se qu im su tc sc rc cn so ++ (wX cI cZ aX bt pa ug le rn ax fa ++ (wH cI cJ cO aH aK hs ol ct ++ (wM cI cJ aM row tot tab goa bes tic txt par sav bwh bpr bse len mat ask hh ++ ([] : va_W))))))) H → va_D (fun q : Nat => s.heap.size ≤ q) (wE cI cJ cA aE aR un tp sh de co ma ru fo ++ (wT aT (aS 0) (aH 0) (aE 0) (aX 0) ++ (wS cI cJ aS pr pu ta se qu im su tc sc rc cn so ++ (wX cI cZ aX bt pa ug le rn ax fa ++ (wH cI cJ cO aH aK hs ol ct ++ (wM cI cJ aM row tot tab goa bes tic txt par sav bwh bpr bse len mat ask hh ++ ([] : va_W))))))) → va_S (fun q : Nat => s.heap.size ≤ q) s.heap H locs → W p l ev room_1 s m #[Value.ref b] below meth c H locs 600000 7302250 (lw_Z below #[Value.ref b] s) (F0 m 1086 ls []) := by
        intro un tp sh de co ma ru fo pr pu ta se qu im su tc sc rc cn so bt pa ug le rn ax fa hs ol ct row tot tab goa bes tic txt par sav bwh bpr bse len mat ask hh H locs hI hP hD hS
        refine lv_iinc (v := nI (i + 7)) (lv' := [(3, .int (nI (i + 7))), (2, .ref (aM 0)), (1, .ref aT), (0, .ref b)]) hx hb dL_law_1086 hl (k := 0) rfl (nI_add i 7) (by decide) rfl (fun ls hl => ?_)
        refine lv_goto (tgt := 18) hx hb dL_law_1089 (by decide) ?_
        exact ih (i + 7) (by omega) (by omega) _ _ _ _ _ _ _ _ _ _ _ _ _ _ _ _ _ _ _ _ _ _ _ _ _ _ _ _ _ _ _ _ _ _ _ _ _ _ _ _ _ _ _ _ _ _ H locs ls hI hP hD hS hl
      clear ih ej h_0 c9
      match j, hj with
      | 0, _ => exact lv_tableIn (tgt := 176) (off := 143) hx hb dL_law_33 (by decide) (by decide) (by decide) (by decide) (law_addThruster l hL C0 hK hE hi hI hP hD hS hl kk)
      | 1, _ => exact lv_tableIn (tgt := 251) (off := 218) hx hb dL_law_33 (by decide) (by decide) (by decide) (by decide) (law_setState l hL C0 hK hE hi hI hP hD hS hl kk)
      | 2, _ => exact lv_tableIn (tgt := 284) (off := 251) hx hb dL_law_33 (by decide) (by decide) (by decide) (by decide) (law_thrusters l hL C0 hK hE hi hI hP hD hS hl kk)
      | 3, _ => exact lv_tableIn (tgt := 297) (off := 264) hx hb dL_law_33 (by decide) (by decide) (by decide) (by decide) (law_thruster l hL C0 hK hE hi hI hP hD hS hl kk)
      | 4, _ => exact lv_tableIn (tgt := 330) (off := 297) hx hb dL_law_33 (by decide) (by decide) (by decide) (by decide) (law_unit l hL C0 hK hE hi hI hP hD hS hl kk)
      | 5, _ => exact lv_tableIn (tgt := 363) (off := 330) hx hb dL_law_33 (by decide) (by decide) (by decide) (by decide) (law_determinant l hL C0 hK hE hi hI hP hD hS hl kk)
      | 6, _ => exact lv_tableIn (tgt := 406) (off := 373) hx hb dL_law_33 (by decide) (by decide) (by decide) (by decide) (law_refuel l hL C0 hK hE hi hI hP hD hS hl kk)
      | 7, _ => exact lv_tableIn (tgt := 439) (off := 406) hx hb dL_law_33 (by decide) (by decide) (by decide) (by decide) (law_fuel l hL C0 hK hE hi hI hP hD hS hl kk)
      | 8, _ => exact lv_tableIn (tgt := 462) (off := 429) hx hb dL_law_33 (by decide) (by decide) (by decide) (by decide) (law_forbid l hL C0 hK hE hi hI hP hD hS hl kk)
      | 9, _ => exact lv_tableIn (tgt := 485) (off := 452) hx hb dL_law_33 (by decide) (by decide) (by decide) (by decide) (law_allow l hL C0 hK hE hi hI hP hD hS hl kk)
      | 10, _ => exact lv_tableIn (tgt := 508) (off := 475) hx hb dL_law_33 (by decide) (by decide) (by decide) (by decide) (law_isForbidden l hL C0 hK hE hi hI hP hD hS hl kk)
      | 11, _ => exact lv_tableIn (tgt := 531) (off := 498) hx hb dL_law_33 (by decide) (by decide) (by decide) (by decide) (law_select l hL C0 hK hE hi hI hP hD hS hl kk)
      | 12, _ => exact lv_tableIn (tgt := 574) (off := 541) hx hb dL_law_33 (by decide) (by decide) (by decide) (by decide) (law_pulse l hL C0 hK hE hi hI hP hD hS hl kk)
      | 13, _ => exact lv_tableIn (tgt := 627) (off := 594) hx hb dL_law_33 (by decide) (by decide) (by decide) (by decide) (law_price l hL C0 hK hE hi hI hP hD hS hl kk)
      | 14, _ => exact lv_tableIn (tgt := 670) (off := 637) hx hb dL_law_33 (by decide) (by decide) (by decide) (by decide) (law_request l hL C0 hK hE hi hI hP hD hS hl kk)
      | 15, _ => exact lv_tableIn (tgt := 713) (off := 680) hx hb dL_law_33 (by decide) (by decide) (by decide) (by decide) (law_urge l hL C0 hK hE hi hI hP hD hS hl kk)
      | 16, _ => exact lv_tableIn (tgt := 756) (off := 723) hx hb dL_law_33 (by decide) (by decide) (by decide) (by decide) (law_cancel l hL C0 hK hE hi hI hP hD hS hl kk)
      | 17, _ => exact lv_tableIn (tgt := 779) (off := 746) hx hb dL_law_33 (by decide) (by decide) (by decide) (by decide) (law_queued l hL C0 hK hE hi hI hP hD hS hl kk)
      | 18, _ => exact lv_tableIn (tgt := 792) (off := 759) hx hb dL_law_33 (by decide) (by decide) (by decide) (by decide) (law_requested l hL C0 hK hE hi hI hP hD hS hl kk)
      | 19, _ => exact lv_tableIn (tgt := 825) (off := 792) hx hb dL_law_33 (by decide) (by decide) (by decide) (by decide) (law_cycle l hL C0 hK hE hi hI hP hD hS hl kk)
      | 20, _ => exact lv_tableIn (tgt := 838) (off := 805) hx hb dL_law_33 (by decide) (by decide) (by decide) (by decide) (law_cycles l hL C0 hK hE hi hI hP hD hS hl kk)
      | 21, _ => exact lv_tableIn (tgt := 861) (off := 828) hx hb dL_law_33 (by decide) (by decide) (by decide) (by decide) (law_cycleCount l hL C0 hK hE hi hI hP hD hS hl kk)
      | 22, _ => exact lv_tableIn (tgt := 874) (off := 841) hx hb dL_law_33 (by decide) (by decide) (by decide) (by decide) (law_fired l hL C0 hK hE hi hI hP hD hS hl kk)
      | 23, _ => exact lv_tableIn (tgt := 897) (off := 864) hx hb dL_law_33 (by decide) (by decide) (by decide) (by decide) (law_impulse l hL C0 hK hE hi hI hP hD hS hl kk)
      | 24, _ => exact lv_tableIn (tgt := 930) (off := 897) hx hb dL_law_33 (by decide) (by decide) (by decide) (by decide) (law_total l hL C0 hK hE hi hI hP hD hS hl kk)
      | 25, _ => exact lv_tableIn (tgt := 954) (off := 921) hx hb dL_law_33 (by decide) (by decide) (by decide) (by decide) (law_suspect l hL C0 hK hE hi hI hP hD hS hl kk)
      | 26, _ => exact lv_tableIn (tgt := 997) (off := 964) hx hb dL_law_33 (by decide) (by decide) (by decide) (by decide) (law_undo l hL C0 hK hE hi hI hP hD hS hl kk)
      | 27, _ => exact lv_tableIn (tgt := 1010) (off := 977) hx hb dL_law_33 (by decide) (by decide) (by decide) (by decide) (law_type l hL C0 hK hE hi hI hP hD hS hl kk)
      | 28, _ => exact lv_tableIn (tgt := 1033) (off := 1000) hx hb dL_law_33 (by decide) (by decide) (by decide) (by decide) (law_clearText l hL C0 hK hE hi hI hP hD hS hl kk)
      | 29, _ => exact lv_tableIn (tgt := 1046) (off := 1013) hx hb dL_law_33 (by decide) (by decide) (by decide) (by decide) (law_textFault l hL C0 hK hE hi hI hP hD hS hl kk)
      | 30, _ => exact lv_tableIn (tgt := 1059) (off := 1026) hx hb dL_law_33 (by decide) (by decide) (by decide) (by decide) (law_load l hL C0 hK hE hi hI hP hD hS hl kk)
      | 31, _ => exact lv_tableIn (tgt := 1072) (off := 1039) hx hb dL_law_33 (by decide) (by decide) (by decide) (by decide) (law_digest l hL C0 hK hE hi hI hP hD hS hl kk)
      | k + 32, h => exact absurd h (by omega)
set_option maxHeartbeats 4000000 in
set_option maxRecDepth 100000 in
theorem whole_start {p : Program} {ev : Env} {s : State} {m : MethodId} {below : List Frame} {meth : Method} {c : Code} (l : Launch) (hflags : l.flags = flags0) {b L : Nat} {xs : Nat → Int32} (hL : L ≤ 3584) (C0 : lw_At p s m meth c b L xs) : W p l ev room_1 s m #[Value.ref b] below meth c s.heap [] 0 0 (lw_Z below #[Value.ref b] s) (entryFrame m ([Value.ref b] : List Value).toArray 4) := by
  obtain ⟨hx, hb, hr, hml, hown, hts0, hX, hbl, hlocks, hgv⟩ := id C0
  have hts : ∀ w ∈ tb, w.before #[Value.ref b] s = true := fun w h => hts0 w (tb_lw w h)
  have hA : ∀ q : Nat, s.heap.size ≤ q → (fun q : Nat => s.heap.size ≤ q) q := fun _ h => h
  have hbA : ¬ (fun q : Nat => s.heap.size ≤ q) b := Nat.not_le.mpr hbl
  obtain ⟨cX0, iX0, hnX0⟩ := u_known (C := RX0) (T := TX0) (N := 3) (n := 3) hts uX0 (hts _ kw79)
  obtain ⟨cX1, iX1, hnX1⟩ := u_known (C := RX1) (T := TX1) (N := 8) (n := 8) hts uX1 (hts _ kw99)
  obtain ⟨cX2, iX2, hnX2⟩ := u_known (C := RX2) (T := TX2) (N := 12) (n := 12) hts uX2 (hts _ kw20)
  obtain ⟨cX3, iX3, hnX3⟩ := u_known (C := RX3) (T := TX3) (N := 7) (n := 7) hts uX3 (hts _ kw134)
  obtain ⟨cX4, iX4, hnX4⟩ := u_known (C := RX4) (T := TX4) (N := 4) (n := 4) hts uX4 (hts _ kw12)
  obtain ⟨cX5, iX5, hnX5⟩ := u_known (C := RX5) (T := TX5) (N := 16) (n := 16) hts uX5 (hts _ kw573)
  obtain ⟨G, hKc⟩ : ∃ (G : va_G), ∀ (k : Nat) (q : vw_C), vwCl[k]? = some q → u_Kn s q.1 q.2.1 q.2.2 (G.1 k) (G.2 k) := by
    refine ⟨(fun k => match k with | 0 => cX0 | 1 => cX1 | 2 => cX2 | 3 => cX3 | 4 => cX4 | _ => cX5, fun k => match k with | 0 => iX0 | 1 => iX1 | 2 => iX2 | 3 => iX3 | 4 => iX4 | _ => iX5), ?_⟩
    intro k q hq
    match k, hq with
    | 0, hq => cases hq; exact hnX0
    | 1, hq => cases hq; exact hnX1
    | 2, hq => cases hq; exact hnX2
    | 3, hq => cases hq; exact hnX3
    | 4, hq => cases hq; exact hnX4
    | 5, hq => cases hq; exact hnX5
    | k + 6, hq => simp [vwCl] at hq
  obtain ⟨cI, aI, fI⟩ := arr_prim (hts _ kw76)
  obtain ⟨cJ, aJ, fJ⟩ := arr_prim (hts _ kw77)
  obtain ⟨cZ, aZ, fZ⟩ := arr_prim (hts _ kw166)
  have hov1 : (Cond.arrayOver (.object "ThrusterSelector$State")).before #[Value.ref b] s = true := hts0 _ (by decide +kernel)
  have hov2 : (Cond.arrayOver (.array .int)).before #[Value.ref b] s = true := hts0 _ (by decide +kernel)
  obtain ⟨co1, cO, kO, o1, o2, o3, o4, o5⟩ := Cond.arrayOver_spec hov1
  obtain ⟨co2, cA, kA, p1, p2, p3, p4, p5⟩ := arrayOver_specB hov2
  have hK : va_K G vwCl (ty5 cI cJ cZ cO cA) s := by
    refine ⟨hKc, fun k q hq => ?_⟩
    match k, hq with
    | 0, hq => cases hq; exact ⟨aI, fI⟩
    | 1, hq => cases hq; exact ⟨aJ, fJ⟩
    | 2, hq => cases hq; exact ⟨aZ, fZ⟩
    | 3, hq => cases hq; exact ⟨fun n z => ⟨fun k h => (by cases h), kO, o3, co1, o4⟩, kO, co1, o3, o4, o1, o5⟩
    | 4, hq => cases hq; exact ⟨fun n z => ⟨fun k h => (by cases h), kA, p3, co2, p4⟩, p5⟩
    | k + 5, hq => simp [ty5] at hq
  have hgs := flat_of_before _ hgv
  have hA0 : ∀ a : Nat, a < s.heap.size → ¬ (fun q : Nat => s.heap.size ≤ q) a := fun a h1 h2 => absurd h1 (Nat.not_lt.mpr h2)
  obtain ⟨eX, heX, hTX⟩ := va_Tof (tm := .static "ThrusterSelector" "DIRECTION_X" "[I") (ty := .int) (N := 4) (f := dxF) (A := (fun q : Nat => s.heap.size ≤ q)) (by decide) (hgs _ (by decide +kernel)) (va_eqt (hgs (Cond.eq (.length (.static "ThrusterSelector" "DIRECTION_X" "[I")) (.int 4)) (by decide +kernel))) (fun j hj => by
    match j, hj with
    | 0, _ => exact va_eqt (hgs (Cond.eq (.elem (.static "ThrusterSelector" "DIRECTION_X" "[I") (.int 0)) (.int (1))) (by decide +kernel))
    | 1, _ => exact va_eqt (hgs (Cond.eq (.elem (.static "ThrusterSelector" "DIRECTION_X" "[I") (.int 1)) (.int (0))) (by decide +kernel))
    | 2, _ => exact va_eqt (hgs (Cond.eq (.elem (.static "ThrusterSelector" "DIRECTION_X" "[I") (.int 2)) (.int (-1))) (by decide +kernel))
    | 3, _ => exact va_eqt (hgs (Cond.eq (.elem (.static "ThrusterSelector" "DIRECTION_X" "[I") (.int 3)) (.int (0))) (by decide +kernel))
    | j + 4, h => exact absurd h (by omega)) hA0
  have hZX := va_Zref (A := (fun q : Nat => s.heap.size ≤ q)) (hts0 (Cond.laysStatic "ThrusterSelector" "DIRECTION_X" "[I") (by decide +kernel)) (hts _ kw1) heX hA0
  skip
  obtain ⟨eY, heY, hTY⟩ := va_Tof (tm := .static "ThrusterSelector" "DIRECTION_Y" "[I") (ty := .int) (N := 4) (f := dyF) (A := (fun q : Nat => s.heap.size ≤ q)) (by decide) (hgs _ (by decide +kernel)) (va_eqt (hgs (Cond.eq (.length (.static "ThrusterSelector" "DIRECTION_Y" "[I")) (.int 4)) (by decide +kernel))) (fun j hj => by
    match j, hj with
    | 0, _ => exact va_eqt (hgs (Cond.eq (.elem (.static "ThrusterSelector" "DIRECTION_Y" "[I") (.int 0)) (.int (0))) (by decide +kernel))
    | 1, _ => exact va_eqt (hgs (Cond.eq (.elem (.static "ThrusterSelector" "DIRECTION_Y" "[I") (.int 1)) (.int (1))) (by decide +kernel))
    | 2, _ => exact va_eqt (hgs (Cond.eq (.elem (.static "ThrusterSelector" "DIRECTION_Y" "[I") (.int 2)) (.int (0))) (by decide +kernel))
    | 3, _ => exact va_eqt (hgs (Cond.eq (.elem (.static "ThrusterSelector" "DIRECTION_Y" "[I") (.int 3)) (.int (-1))) (by decide +kernel))
    | j + 4, h => exact absurd h (by omega)) hA0
  have hZY := va_Zref (A := (fun q : Nat => s.heap.size ≤ q)) (hts0 (Cond.laysStatic "ThrusterSelector" "DIRECTION_Y" "[I") (by decide +kernel)) (hts _ kw1) heY hA0
  have hE : Ev (eX, eY) (fun q : Nat => s.heap.size ≤ q) s s.heap := ⟨fun q hq => va_Nw.of rfl (hts0 _ (nw_lw q hq)), hZX, hZY, hTX, hTY⟩
  have hXw : Xw s := ⟨va_AO.of hov1, hov2, va_Nw.of rfl (hts0 _ (by decide +kernel)), va_Nw.of rfl (hts0 _ (by decide +kernel))⟩
  have hS : va_S (fun q : Nat => s.heap.size ≤ q) s.heap s.heap [] := va_S.rf
  have hP : va_P G vwCl [] s.heap := fun k q h => by simp at h
  have hD : va_D (fun q : Nat => s.heap.size ≤ q) [] := ⟨fun i j p q h => by simp at h, fun k q h => by simp at h⟩
  have hl := lv_entry ([.ref b]) (n := 4) (Nat.le_of_ble_eq_true rfl)
  rw [lg_entry_eq]
  generalize (lg_sl ([.ref b]) ++ List.replicate (4 - (lg_sl ([.ref b])).length) Slot.unset).toArray = ls at hl ⊢
  have hl : lv_has ls 4 [(0, .ref b)] := hl
  refine va_new (ci := 4) (fs := [.null, .null, .null, .null]) (C := RX4) (T := TX4) (N := 4) hx hb hts uX4 tyX4 tyX4_ok hown (hts _ kw11) (hts _ kw12) (hts _ kw1) hK hP hD hS hA rfl (fun j hj => by match j, hj with | 0, _ => rfl | 1, _ => rfl | 2, _ => rfl | 3, _ => rfl) (Nat.le_of_ble_eq_true rfl) (Nat.le_of_ble_eq_true rfl) dL_law_0 (fun q1 H hP hD hS => ?_)
  have hP : va_P G vwCl ([(q1, .inr (4, [.null, .null, .null, .null]))]) H := hP
  have hD : va_D (fun q : Nat => s.heap.size ≤ q) ([(q1, .inr (4, [.null, .null, .null, .null]))]) := hD
  refine lv_dup hx hb dL_law_3 rfl ?_
  refine kIC (wr := []) (va_runI (As := []) (rest := [.ref q1]) ⟨hx, hb, hml, hown, hts⟩ (c_X4_init l G cI cJ cZ cO cA (eX, eY) q1 _) (cwI 0 hts (tb_I kw15) rfl rfl rfl (hts _ kw1) (hts _ kw13) (hts _ kw14) rfl (by decide +kernel) ⟨Nat.le_of_ble_eq_true rfl, Nat.le_of_ble_eq_true rfl⟩) ⟨gC_blind, fun U hU hW => kC_pc hK hP hD hS hA hE hXw [0] rfl rfl hU hW⟩ rfl rfl hl.1 rfl (lv_room (Nat.le_of_ble_eq_true rfl)) dL_law_4 ⟨Nat.le_of_ble_eq_true rfl, Nat.le_of_ble_eq_true rfl⟩) hP hD hS hA [0] [] rfl rfl (by decide +kernel) (by decide +kernel) (fun x1 H locs okx1 hP2 hD2 hS2 => ?_)
  clear hP hD hS
  obtain rfl := okx1
  have hP := hP2
  have hD := hD2
  have hS := hS2
  have hP : va_P G vwCl (wE cI cJ cA x1.2.2.2.1.1 x1.2.2.2.1.2 (fun _ => (fun _ => 0)) (fun _ => 0) (fun _ => 0) 1 0 0 0 0 ++ (wT x1.1 (x1.2.1 0) (x1.2.2.1.1 0) (x1.2.2.2.1.1 0) (x1.2.2.2.2 0) ++ (wS cI cJ x1.2.1 (fun _ => 0) (fun _ => 0) taF (fun _ => 0) (fun _ => 0) (fun _ => 0) (fun _ => 0) 0 0 0 0 0 ++ (wX cI cZ x1.2.2.2.2 (fun _ => 0) (fun _ => 0) (fun _ => 0) 0 0 0 (-2000000000) ++ (wH cI cJ cO x1.2.2.1.1 x1.2.2.1.2 (fun _ => sv0) 0 0 ++ ([] : va_W)))))) H := hP
  have hD : va_D (fun q : Nat => s.heap.size ≤ q) (wE cI cJ cA x1.2.2.2.1.1 x1.2.2.2.1.2 (fun _ => (fun _ => 0)) (fun _ => 0) (fun _ => 0) 1 0 0 0 0 ++ (wT x1.1 (x1.2.1 0) (x1.2.2.1.1 0) (x1.2.2.2.1.1 0) (x1.2.2.2.2 0) ++ (wS cI cJ x1.2.1 (fun _ => 0) (fun _ => 0) taF (fun _ => 0) (fun _ => 0) (fun _ => 0) (fun _ => 0) 0 0 0 0 0 ++ (wX cI cZ x1.2.2.2.2 (fun _ => 0) (fun _ => 0) (fun _ => 0) 0 0 0 (-2000000000) ++ (wH cI cJ cO x1.2.2.1.1 x1.2.2.1.2 (fun _ => sv0) 0 0 ++ ([] : va_W)))))) := hD
  refine lv_astore_n (lv' := [(1, .ref x1.1), (0, .ref b)]) hx hb dL_law_7 rfl hl (by decide) rfl (fun ls hl => ?_)
  refine va_new (ci := 5) (fs := [.null, .null, .int 0, .null, .null, .null, .long 0, .long 0, .int 0, .null, .null, .int 0, .int 0, .null, .int 0, .long 0]) (C := RX5) (T := TX5) (N := 16) hx hb hts uX5 tyX5 tyX5_ok hown (hts _ kw572) (hts _ kw573) (hts _ kw7) hK hP hD hS hA rfl (fun j hj => by match j, hj with | 0, _ => rfl | 1, _ => rfl | 2, _ => rfl | 3, _ => rfl | 4, _ => rfl | 5, _ => rfl | 6, _ => rfl | 7, _ => rfl | 8, _ => rfl | 9, _ => rfl | 10, _ => rfl | 11, _ => rfl | 12, _ => rfl | 13, _ => rfl | 14, _ => rfl | 15, _ => rfl | k + 16, h => exact absurd h (by omega)) (Nat.le_of_ble_eq_true rfl) (Nat.le_of_ble_eq_true rfl) dL_law_8 (fun q2 H hP hD hS => ?_)
  have hP : va_P G vwCl ((wE cI cJ cA x1.2.2.2.1.1 x1.2.2.2.1.2 (fun _ => (fun _ => 0)) (fun _ => 0) (fun _ => 0) 1 0 0 0 0 ++ (wT x1.1 (x1.2.1 0) (x1.2.2.1.1 0) (x1.2.2.2.1.1 0) (x1.2.2.2.2 0) ++ (wS cI cJ x1.2.1 (fun _ => 0) (fun _ => 0) taF (fun _ => 0) (fun _ => 0) (fun _ => 0) (fun _ => 0) 0 0 0 0 0 ++ (wX cI cZ x1.2.2.2.2 (fun _ => 0) (fun _ => 0) (fun _ => 0) 0 0 0 (-2000000000) ++ (wH cI cJ cO x1.2.2.1.1 x1.2.2.1.2 (fun _ => sv0) 0 0 ++ ([] : va_W)))))) ++ [(q2, .inr (5, [.null, .null, .int 0, .null, .null, .null, .long 0, .long 0, .int 0, .null, .null, .int 0, .int 0, .null, .int 0, .long 0]))]) H := hP
  have hD : va_D (fun q : Nat => s.heap.size ≤ q) ((wE cI cJ cA x1.2.2.2.1.1 x1.2.2.2.1.2 (fun _ => (fun _ => 0)) (fun _ => 0) (fun _ => 0) 1 0 0 0 0 ++ (wT x1.1 (x1.2.1 0) (x1.2.2.1.1 0) (x1.2.2.2.1.1 0) (x1.2.2.2.2 0) ++ (wS cI cJ x1.2.1 (fun _ => 0) (fun _ => 0) taF (fun _ => 0) (fun _ => 0) (fun _ => 0) (fun _ => 0) 0 0 0 0 0 ++ (wX cI cZ x1.2.2.2.2 (fun _ => 0) (fun _ => 0) (fun _ => 0) 0 0 0 (-2000000000) ++ (wH cI cJ cO x1.2.2.1.1 x1.2.2.1.2 (fun _ => sv0) 0 0 ++ ([] : va_W)))))) ++ [(q2, .inr (5, [.null, .null, .int 0, .null, .null, .null, .long 0, .long 0, .int 0, .null, .null, .int 0, .int 0, .null, .int 0, .long 0]))]) := hD
  refine lv_dup hx hb dL_law_11 rfl ?_
  refine kIC (wr := (wE cI cJ cA x1.2.2.2.1.1 x1.2.2.2.1.2 (fun _ => (fun _ => 0)) (fun _ => 0) (fun _ => 0) 1 0 0 0 0 ++ (wT x1.1 (x1.2.1 0) (x1.2.2.1.1 0) (x1.2.2.2.1.1 0) (x1.2.2.2.2 0) ++ (wS cI cJ x1.2.1 (fun _ => 0) (fun _ => 0) taF (fun _ => 0) (fun _ => 0) (fun _ => 0) (fun _ => 0) 0 0 0 0 0 ++ (wX cI cZ x1.2.2.2.2 (fun _ => 0) (fun _ => 0) (fun _ => 0) 0 0 0 (-2000000000) ++ (wH cI cJ cO x1.2.2.1.1 x1.2.2.1.2 (fun _ => sv0) 0 0 ++ ([] : va_W))))))) (va_runI (As := []) (rest := [.ref q2]) ⟨hx, hb, hml, hown, hts⟩ (c_X5_init l G cI cJ cZ cO cA (eX, eY) q2 _) (cwI 0 hts (tb_I kw576) rfl rfl rfl (hts _ kw7) (hts _ kw574) (hts _ kw575) rfl (by decide +kernel) ⟨Nat.le_of_ble_eq_true rfl, Nat.le_of_ble_eq_true rfl⟩) ⟨gC_blind, fun U hU hW => kC_pc hK hP hD hS hA hE hXw [68] rfl rfl hU hW⟩ rfl rfl hl.1 rfl (lv_room (Nat.le_of_ble_eq_true rfl)) dL_law_12 ⟨Nat.le_of_ble_eq_true rfl, Nat.le_of_ble_eq_true rfl⟩) hP hD hS hA [68] [0, 1, 2, 3, 4, 5, 6, 7, 8, 9, 10, 11, 12, 13, 14, 15, 16, 17, 18, 19, 20, 21, 22, 23, 24, 25, 26, 27, 28, 29, 30, 31, 32, 33, 34, 35, 36, 37, 38, 39, 40, 41, 42, 43, 44, 45, 46, 47, 48, 49, 50, 51, 52, 53, 54, 55, 56, 57, 58, 59, 60, 61, 62, 63, 64, 65, 66, 67] rfl rfl (by decide +kernel) (by decide +kernel) (fun x2 H locs okx2 hP2 hD2 hS2 => ?_)
  clear hP hD hS
  obtain rfl := okx2
  have hP := hP2
  have hD := hD2
  have hS := hS2
  have hP : va_P G vwCl (wE cI cJ cA x1.2.2.2.1.1 x1.2.2.2.1.2 (fun _ => (fun _ => 0)) (fun _ => 0) (fun _ => 0) 1 0 0 0 0 ++ (wT x1.1 (x1.2.1 0) (x1.2.2.1.1 0) (x1.2.2.2.1.1 0) (x1.2.2.2.2 0) ++ (wS cI cJ x1.2.1 (fun _ => 0) (fun _ => 0) taF (fun _ => 0) (fun _ => 0) (fun _ => 0) (fun _ => 0) 0 0 0 0 0 ++ (wX cI cZ x1.2.2.2.2 (fun _ => 0) (fun _ => 0) (fun _ => 0) 0 0 0 (-2000000000) ++ (wH cI cJ cO x1.2.2.1.1 x1.2.2.1.2 (fun _ => sv0) 0 0 ++ (wM cI cJ x2 row0 (fun _ => 0) (fun _ => 0) (fun _ => 0) (fun _ => 0) (fun _ => 0) (fun _ => 0) (fun _ => 0) 0 0 0 0 0 0 0 0 ++ ([] : va_W))))))) H := hP
  have hD : va_D (fun q : Nat => s.heap.size ≤ q) (wE cI cJ cA x1.2.2.2.1.1 x1.2.2.2.1.2 (fun _ => (fun _ => 0)) (fun _ => 0) (fun _ => 0) 1 0 0 0 0 ++ (wT x1.1 (x1.2.1 0) (x1.2.2.1.1 0) (x1.2.2.2.1.1 0) (x1.2.2.2.2 0) ++ (wS cI cJ x1.2.1 (fun _ => 0) (fun _ => 0) taF (fun _ => 0) (fun _ => 0) (fun _ => 0) (fun _ => 0) 0 0 0 0 0 ++ (wX cI cZ x1.2.2.2.2 (fun _ => 0) (fun _ => 0) (fun _ => 0) 0 0 0 (-2000000000) ++ (wH cI cJ cO x1.2.2.1.1 x1.2.2.1.2 (fun _ => sv0) 0 0 ++ (wM cI cJ x2 row0 (fun _ => 0) (fun _ => 0) (fun _ => 0) (fun _ => 0) (fun _ => 0) (fun _ => 0) (fun _ => 0) 0 0 0 0 0 0 0 0 ++ ([] : va_W))))))) := hD
  refine W.widen (k := 600000) (n := 7302250) (Nat.le_of_ble_eq_true rfl) (Nat.le_of_ble_eq_true rfl) ?_
  refine lv_astore_n (lv' := [(2, .ref (x2 0)), (1, .ref x1.1), (0, .ref b)]) hx hb dL_law_15 rfl hl (by decide) rfl (fun ls hl => ?_)
  refine lv_iconst (v := 0) hx hb dL_law_16 (by decide) ?_
  refine lv_istore_n (lv' := [(3, .int (nI 0)), (2, .ref (x2 0)), (1, .ref x1.1), (0, .ref b)]) hx hb dL_law_17 rfl hl (by decide) rfl (fun ls hl => ?_)
  exact law_loop l hL C0 (aE := x1.2.2.2.1.1) (aR := x1.2.2.2.1.2) (aT := x1.1) (aS := x1.2.1) (aX := x1.2.2.2.2) (aH := x1.2.2.1.1) (aK := x1.2.2.1.2) (aM := x2) hK hE (L + 8) 0 (Nat.zero_le _) (by omega) _ _ _ _ _ _ _ _ _ _ _ _ _ _ _ _ _ _ _ _ _ _ _ _ _ _ _ _ _ _ _ _ _ _ _ _ _ _ _ _ _ _ _ _ _ _ H _ ls Inv_0 hP hD hS hl
-- ===== YOUR PART ENDS =====
set_option maxHeartbeats 4000000 in
theorem lw_walk (l : Launch) (hflags : l.flags = flags0) (b : Addr) (xs : List Int32) : MetFree l x (headSpec (Jvm.Cond.code x code maxLocals ret :: tables_1) room_1) (lw_P b xs) (fun _ _ _ _ _ => True) lw_Q := by
  refine MetFree.of_bodyS (code := code) (maxLocals := maxLocals) (ret := ret) (by decide) ?_ ?_
  · intro args s m h hn
    obtain ⟨meth, c, h1, h2, h3, h4, h5, h6, -, -⟩ := Cond.code_spec hn (atoms_spec (ws := Jvm.Cond.code x code maxLocals ret :: tables_1) h _ List.mem_cons_self)
    exact ⟨meth, c, h1, h2, h3, h4, h5, h6⟩
  · intro p e s m args below meth c s₁ B hml0 hP _
    obtain ⟨rfl, hx, hbd, hgv⟩ := hP
    obtain ⟨scr, harrAt, hlist, hof, hsmall⟩ := hx
    obtain ⟨hcb, hkn, -, -⟩ := State.arrayAt?_spec harrAt
    have hown : s.vm.findClass R_law = some m.cls := findClass_of_methodNamed B.named
    have hts0 : ∀ c ∈ (Jvm.Cond.code x code maxLocals ret :: tables_1), c.before #[Value.ref b] s = true := atoms_spec (ws := Jvm.Cond.code x code maxLocals ret :: tables_1) B.pre
    have hts : ∀ w ∈ lw_tbl, w.before #[Value.ref b] s = true := k2_hts_sels lw_privs (fun w hw => hts0 w (List.mem_cons_of_mem _ hw)) lw_privs_ok
    have hml : c.maxLocals = 4 := B.maxLocals_eq (hts0 _ List.mem_cons_self)
    have X₀ : Stand p l e room_1 s m #[Value.ref b] below meth c s₁ [] 0 0 := Stand.of_body B
    have hh0 : s₁.heap = s.heap := by rw [B.state]; rfl
    have hsz : scr.slots.size = xs.length := by rw [← Array.length_toList, hlist, List.length_map]
    have hval : ∀ j : Nat, j < xs.length → scr.slots[j]? = some (.int (xs.getD j 0)) := fun j hj => by
      rw [← Array.getElem?_toList, hlist]
      simp [hj]
    have hbl : b < s.heap.size := (Array.getElem?_eq_some_iff.mp hcb).1
    have hX : va_X b xs.length (fun j => xs.getD j 0) s s.heap := ⟨scr, hcb, hof, hkn, hsz, hval⟩
    have K : W p l e room_1 s m #[Value.ref b] below meth c s₁.heap [] 0 0 (lw_Z below #[Value.ref b] s) (entryFrame m ([Value.ref b] : List Value).toArray 4) := by
      rw [hh0]
      exact whole_start l hflags hbd ⟨B.exec, B.bytes, B.returns, hml, hown, hts, hX, hbl, B.notSynchronized, hgv⟩
    obtain ⟨t, a1, o, b1, b2, b3⟩ := K s₁ rfl X₀
    exact ⟨t, o, a1, b1, b2, b3⟩
theorem lw_pre_spec {args : Array Value} {s : State} (h : (Jvm.Cond.and given_1 narrow_1).before args s = true) (hr : rest_1_c.before args s = true) : ∃ (b : Addr) (xs : List Int32), lw_P b xs args s := by
  have hs := flat_of_before _ h
  have hq := flat_of_before _ hr
  have hc : (Cond.count 1).before args s = true := hs _ (by decide +kernel)
  have harr : (Cond.arrayOf (.arg 0) .int).before args s = true := hs _ (by decide +kernel)
  have hle : (Cond.le (.length (.arg 0)) (.int 3584)).before args s = true := hs _ (by decide +kernel)
  have hlen : (Cond.isInt (.length (.arg 0))).before args s = true := hq _ (by decide +kernel)
  have hall : (Cond.all (.arg 0) (.isInt (.elem (.arg 0) (.index 0)))).before args s = true := hq _ (by decide +kernel)
  obtain ⟨b, xs, hb, hx⟩ := State.ints_of_pre rfl harr hlen hall
  have hsm : xs.length < 2 ^ 31 := hx.choose_spec.2.2.2
  have hev : (Term.length (.arg 0)).eval args s none [] s = some (.int xs.length.toInt32) := hx.length_eval hb
  have hv := Cond.le_ints hev (show (Term.int 3584).eval args s none [] s = some (.int 3584) from rfl)
  have hd : xs.length.toInt32 ≤ 3584 := by
    simpa [Cond.before, Cond.holds, hv] using hle
  have hN : xs.length ≤ 3584 := (Int32.ofNat_le_ofNat hsm (by decide)).mp (show Int32.ofNat xs.length ≤ Int32.ofNat 3584 from hd)
  exact ⟨b, xs, Cond.one_arg hc (show args[0]? = some (.ref b) from hb), hx, hN, h⟩
theorem lw_comes (l : Launch) (hflags : l.flags = flags0) : Comes l x (Jvm.Cond.code x code maxLocals ret :: tables_1) room_1 (fun tb e args s => Calls_1 tb e args s ∧ rest_1 tb e args s ∧ Pre_1 tb e args s)
    (fun _ _ args s o t => lw_Q args s o t) := by
  intro p e ha hc hk s m args below hf hfit hheap happ hpre
  obtain ⟨b, xs, hP⟩ := lw_pre_spec hpre.2.2 hpre.2.1
  obtain ⟨k, o, h1, h2, h3, hQ⟩ := lw_walk l hflags b xs p e ha hc hk s m args below hf ((Spec.applies_iff_loose hf).mp happ).1 hP trivial
  exact ⟨k, o, h1, h2, h3, hQ⟩
theorem lw_frame {s t : State} {o : Outcome} {args : Array Value} (h : Framed s o t [] 600000 7302250) :
    Framed s o t (fieldLocs frame_1_writes args s ++ arrayLocs frame_1_arrays args s ++ staticLocs frame_1_statics s) 600000 7302250 := h
theorem lw_limb (L : Cond) (hL : ∀ (args : Array Value) (s t : State), L.after args s (.returned (some (.int 1))) t = true) :
    ArmFor flags0 classFile x code maxLocals ret World_1 tables_1 room_1 Calls_1 rest_1 Pre_1
      (fun tb e a s o t => postC L tb e a s o t ∧ Framed s o t (fieldLocs frame_1_writes a s ++ arrayLocs frame_1_arrays a s ++ staticLocs frame_1_statics s) 600000 7302250) := by
  intro l hflags _ _ p e ha hc hk s m args below hf hfit hheap happ hpre
  obtain ⟨k, o, h1, h2, h3, rfl, hF⟩ := lw_comes l hflags p e ha hc hk s m args below hf hfit hheap happ hpre
  exact ⟨k, _, h1, h2, h3, hL args s _, lw_frame hF⟩
theorem i_vc : Claimed_1_1 ∧ Claimed_1_2 := ⟨lw_limb limb_1_1 (fun args s t => by simp [limb_1_1, Cond.after, Cond.holds, Cond.value]), lw_limb limb_1_2 (fun args s t => Cond.after_iff.mpr (by
  first | (rw [show limb_1_2 = Cond.eq .result (.int 1) from rfl, Cond.eq_ints (x := 1) (y := 1) rfl rfl]; simp; done) | (simp [limb_1_2, Cond.value, Term.eval]; done)))⟩

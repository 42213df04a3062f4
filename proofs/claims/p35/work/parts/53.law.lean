/-! the law answers 1 -/
theorem taF_z : zI 2 taF := fun k hk => by
  unfold taF
  rw [uu (by omega), uu (by omega)]
theorem taF_t : Tk taF := fun k hk => by
  match k, hk with
  | 0, _ => decide
  | 1, _ => decide
theorem OK0 : OKs 0 0 0 0 zf zf taF zf zf zf zl 0 :=
  ⟨⟨by omega, fun i hi => by omega⟩, by omega, by omega, by omega, taF_t, zf_z _, zf_z _, taF_z, zf_z _, zf_z _, zf_z _, zl_z _⟩
theorem Hi0 : Hi (fun _ => sv0) 0 0 := ⟨0, 0, rfl, by omega, rfl, by omega, fun _ => ⟨zf_z _, zf_z _, taF_z, zf_z _, zf_z _, zf_z _, zl_z _⟩⟩
theorem load_0 : ∃ pa ug rn ax fa, f_X4_load zf zf taF zf zf zl 0 0 0 0 zf 0 zf 0 zf zf 0 0 (-2000000000) (fun _ => sv0) 0 0 = some (-2000000003, zf, 0, pa, ug, rn, ax, fa, (fun _ => sv0), 0, 0) := ⟨_, _, _, _, _, rfl⟩
theorem cycles21 {pr se : Nat → Int32} {tc sc : Int32} {un : Nat → Nat → Int32} {tp : Nat → Int32} {sh : Nat → Int64} {de co : Int64} {ma ru fo : Int32} {pu ta qu im : Nat → Int32} {su : Nat → Int64} {rc cn so : Int32} {hs : Nat → SV} {ol ct : Int32} :
    f_X4_cycles pr se tc sc un tp sh de co ma ru fo pu ta qu im su rc cn so hs ol ct 21 = some (-2000000002, un, tp, sh, de, co, ma, ru, fo, pu, ta, qu, im, su, rc, cn, so, hs, ol, ct) := by
  unfold f_X4_cycles
  rw [show f_X4_isWithin 21 1 20 = some 0 from by decide, Option.bind_some, if_pos rfl]
theorem add_bad {pr pu ta se qu im : Nat → Int32} {su : Nat → Int64} {tc sc rc cn so : Int32} {hs : Nat → SV} {ol ct : Int32} : f_X4_addThruster ta se qu im su sc rc cn so pr pu tc hs ol ct 0 0 0 1 2 1 = some (-2000000001, pr, pu, tc, hs, ol, ct) := by
  unfold f_X4_addThruster
  rw [show f_X4_isTank 2 = some 0 from by decide, Option.bind_some, if_pos rfl]
theorem select_bad {pr ta se : Nat → Int32} {tc sc : Int32} {un : Nat → Nat → Int32} {tp : Nat → Int32} {sh : Nat → Int64} {de co : Int64} {ma ru fo : Int32} : f_X4_select pr ta se tc sc un tp sh de co ma ru fo 40001 0 0 = some (-2000000002, un, tp, sh, de, co, ma, ru, fo) := by
  unfold f_X4_select
  rw [show f_X4_isTarget 40001 0 0 = some 0 from by decide, Option.bind_some, if_pos rfl]
theorem thr8 {N : Nat} (h0 : 0 < N) (hN : N ≤ 8) : f_X4_isThruster (nI N) 8 = some 0 := by
  unfold f_X4_isThruster f_X4_isWithin
  rw [am1 N (by omega), if_neg (by decide), if_pos (show nI (N - 1) < 8 from nI_lt (b := 8) (by omega) (by omega))]
  rfl
theorem pulse_bad {pr ta se : Nat → Int32} {N : Nat} {sc : Int32} {un : Nat → Nat → Int32} {tp : Nat → Int32} {sh : Nat → Int64} {de co : Int64} {ma ru fo : Int32} (h0 : 0 < N) (hN : N ≤ 8) : f_X4_pulse pr ta se (nI N) sc un tp sh de co ma ru fo 0 0 0 8 = some (-2000000001, un, tp, sh, de, co, ma, ru, fo) := by
  unfold f_X4_pulse
  rw [thr8 h0 hN, Option.bind_some, if_pos rfl]
theorem imp_bad1 {im : Nat → Int32} : f_X4_impulse im 0 3 = some (-2000000001) := by
  unfold f_X4_impulse
  rw [show f_X4_isPart 3 = some 0 from by decide, Option.bind_some, if_pos rfl]
theorem imp_bad2 {im : Nat → Int32} : f_X4_impulse im 3 0 = some (-2000000002) := by
  unfold f_X4_impulse
  rw [show f_X4_isPart 0 = some 1 from by decide, Option.bind_some, if_neg (by decide), show f_X4_isWithin 3 0 2 = some 0 from by decide, Option.bind_some, if_pos rfl]
theorem forbid_bad {pr pu ta se qu im : Nat → Int32} {su : Nat → Int64} {N : Nat} {sc rc cn so : Int32} {hs : Nat → SV} {ol ct : Int32} (h0 : 0 < N) (hN : N ≤ 8) : f_X4_forbid pr pu ta qu im su (nI N) rc cn so se sc hs ol ct 1 = some (-2000000002, se, sc, hs, ol, ct) := by
  have h : ∀ n, n < 9 → 0 < n → f_X4_isWithin 1 0 (((1 : Int32) <<< (nI n &&& 31)) - 1) = some 1 := by decide +kernel
  unfold f_X4_forbid f_X4_forbid_j29
  rw [h N (by omega) h0, Option.bind_some, if_neg (by decide), show f_J6_bitCount_0f7a4 1 = some 1 from by decide +kernel, Option.bind_some, if_neg (by decide)]
theorem low_g (v : Int32) {n : Nat} (h0 : 0 < n) (hn : n ≤ 8) : ∃ k, k < n ∧ f_L_low v (nI n) = some (nI k) := low_of v h0 (by omega)
set_option maxHeartbeats 8000000 in
set_option maxRecDepth 100000 in
theorem law_ok (xs : Nat → Int32) (L : Nat) : f_L_law xs L zf 0 (fun _ _ => 0) zf zl 1 0 0 0 0 zf zf taF zf zf zf zl 0 0 0 0 0 zf zf 0 0 (-2000000000) (fun _ => sv0) 0 0 = some 1 := by
  unfold f_L_law
  rw [gd_t (show np 0 = true from by decide)]
  rw [show f_X4_undo (fun _ => sv0) 0 zf zf taF zf zf zf zl 0 0 0 0 0 0 = some (-2000000003, zf, zf, taF, zf, zf, zf, zl, 0, 0, 0, 0, 0, 0) from rfl, Option.bind_some]
  dsimp only
  rw [if_pos rfl]
  obtain ⟨c1, hc1, hf1⟩ := find_of (ta := taF) (se := zf) OK0.1 OK0.2.1 0 0 0
  obtain ⟨un1, tp1, ru1, e1⟩ := select_g hf1 (by decide) (fun _ _ => 0) zf zl 1 0 0 0 0 (zl_z 8)
  have hc1' : c1 = ((fun _ => 0), 1, 0, 0, 1) := by
    rcases hc1 with ⟨-, -, -, h⟩ | ⟨h, -⟩
    · exact h
    · exact absurd ⟨rfl, rfl, rfl⟩ h
  subst hc1'
  rw [show f_X4_select zf taF zf 0 0 (fun _ _ => 0) zf zl 1 0 0 0 0 0 0 0 = some (0, un1, tp1, zl, 1, 0, 0, ru1, 1) from e1, Option.bind_some]
  dsimp only
  rw [if_pos rfl]
  obtain ⟨c2, hc2, hf2⟩ := find_of (ta := taF) (se := zf) OK0.1 OK0.2.1 1 0 0
  obtain ⟨un2, tp2, ru2, e2⟩ := select_g hf2 (by decide) un1 tp1 zl 1 0 0 ru1 1 (zl_z 8)
  have hc2f : c2.2.2.2.2 = 0 := by
    rcases hc2 with ⟨h, -⟩ | ⟨-, -, -, h⟩
    · exact absurd h (by decide)
    · rcases h with ⟨h, -⟩ | ⟨-, -, -, ⟨i, j, k, -, -, hk, -⟩, -⟩
      · exact h
      · omega
  rw [if_pos hc2f] at e2
  have hz2 : zL 8 c2.1 := hc2.z.1
  obtain ⟨sh2, de2, co2, ma2, fo2⟩ := c2
  replace hz2 : zL 8 sh2 := hz2
  rw [show f_X4_select zf taF zf 0 0 un1 tp1 zl 1 0 0 ru1 1 1 0 0 = some (-2000000000, un2, tp2, sh2, de2, co2, ma2, ru2, fo2) from e2, Option.bind_some]
  dsimp only
  rw [if_pos rfl, show f_X4_suspect zf zf zf 0 0 0 0 0 0 = some (-2000000003) from rfl, Option.bind_some, if_pos rfl]
  obtain ⟨pa, ug, rn, ax, fa, e3⟩ := load_0
  rw [e3, Option.bind_some]
  dsimp only
  rw [if_pos rfl]
  obtain ⟨pr, pu, N, hs, ol, ct, e4, hN3, hK, hH⟩ := add_loop xs L (cellP xs L 0) OK0 Hi0
  rw [e4, Option.bind_some]
  dsimp only
  obtain ⟨x, e5, un, tp, sh, de, co, ma, ru, fo, N, S, Q, C, pr, pu, ta, se, qu, im, su, so, hs, ol, ct, rfl, hz, hN3, hC22, hK, hH⟩ := main_loop xs L hN3 hK hH un2 tp2 sh2 de2 co2 ma2 ru2 fo2 hz2
  rw [e5, Option.bind_some]
  dsimp only
  clear e1 e2 e3 e4 e5 hf1 hf2 hc1 hc2
  generalize cellP xs L 0 = z
  obtain ⟨hC, hS, hQ, hCn, hT, hZ⟩ := id hK
  have hN := hC.1
  obtain ⟨a, ha, ea⟩ := low_g (z >>> (4 &&& 31)) (show 0 < N by omega) hN
  obtain ⟨b, hb, eb⟩ := low_g (z >>> (8 &&& 31)) (show 0 < N by omega) hN
  obtain ⟨c, hc, ec⟩ := low_g (z >>> (12 &&& 31)) (show 0 < N by omega) hN
  rw [show f_X4_thrusters (nI N) = some (nI N) from rfl, Option.bind_some, ea, Option.bind_some, Option.bind_some, eb, Option.bind_some, Option.bind_some, ec, Option.bind_some]
  obtain ⟨u1, t1, d1⟩ := det_g (ta := ta) hC ha hb hc un tp ru
  rw [d1, Option.bind_some]
  dsimp only
  obtain ⟨u2, t2, d2⟩ := det_g (ta := ta) hC hb ha hc u1 t1 (runM pr ta N)
  rw [d2, Option.bind_some]
  dsimp only
  rw [if_pos (det_sw _ _ _)]
  obtain ⟨u3, t3, d3⟩ := det_g (ta := ta) hC ha hb hc u2 t2 (runM pr ta N)
  rw [d3, Option.bind_some]
  dsimp only
  obtain ⟨u4, t4, d4⟩ := det_g (ta := ta) hC hb hc ha u3 t3 (runM pr ta N)
  rw [d4, Option.bind_some]
  dsimp only
  rw [if_pos (congrArg Int64.toInt32 (det_ro _ _ _))]
  obtain ⟨u5, t5, d5⟩ := det_g (ta := ta) hC ha ha hc u4 t4 (runM pr ta N)
  rw [d5, Option.bind_some]
  dsimp only
  rw [if_pos (show (det (wP pr a) (wP pr a) (wP pr c)).toInt32 = 0 from by rw [det_eq]; decide)]
  obtain ⟨k, hk, ek⟩ := low_of (z >>> (16 &&& 31)) (n := 4) (by omega) (by omega)
  rw [show f_L_low (z >>> (16 &&& 31)) 4 = some (nI k) from ek, Option.bind_some, show (1 : Int32) + nI k = nI (1 + k) from nI_add 1 k]
  obtain ⟨h1, eh1⟩ := dig_of (pu := pu) (ta := ta) (qu := qu) (im := im) (su := su) (cn := nI C) hC hQ
  rw [eh1, Option.bind_some]
  obtain ⟨hs', ol', ct', k1, k2⟩ := keep_ok hH hZ
  obtain ⟨x0, y0, l1, -, un6, tp6, sh6, de6, co6, ma6, ru6, fo6, un7, tp7, sh7, de7, co7, ma7, ru7, fo7, pu6, ta6, qu6, im6, su6, Q6, so6, hs6, ol6, ct6, n6, rfl, -, z6, -, hK6, -⟩ := cycles_rel (e := 1 + k) (by omega) hK (by omega) hH u5 t5 sh de co ma (runM pr ta N) fo hz u5 t5 sh de co ma (runM pr ta N) fo hz
  have ecy : f_X4_cycles pr se (nI N) (nI S) u5 t5 sh de co ma (runM pr ta N) fo pu ta qu im su (nI Q) (nI C) so hs ol ct (nI (1 + k)) = some (n6, un6, tp6, sh6, de6, co6, ma6, ru6, fo6, pu6, ta6, qu6, im6, su6, nI Q6, nI (C + (1 + k)), so6, hs', ol', ct') := by
    unfold f_X4_cycles
    rw [wth1 (by rw [nI_toInt (by omega), show (1 : Int32).toInt = 1 from by decide]; omega) (by rw [nI_toInt (by omega), show (20 : Int32).toInt = 20 from by decide]; omega), Option.bind_some, if_neg (by decide), k1, Option.bind_some, l1]
    rfl
  rw [ecy, Option.bind_some]
  dsimp only
  obtain ⟨h2, eh2⟩ := dig_of (pu := pu6) (ta := ta6) (qu := qu6) (im := im6) (su := su6) (cn := nI (C + (1 + k))) hC hK6.2.2.1
  rw [eh2, Option.bind_some]
  obtain ⟨r9, eu, hr9, hH9⟩ := undo_ok k2 hK6.2.2.2.2.2
  rw [eu, Option.bind_some]
  dsimp only
  have s0 : ∀ h : Int64, lg_cmp h h = 0 := fun h => (lg_eq0 h h).mpr rfl
  rw [if_neg hr9, eh1, Option.bind_some, if_pos (s0 h1)]
  obtain ⟨x1, y1, l2, l3, un8, tp8, sh8, de8, co8, ma8, ru8, fo8, un9, tp9, sh9, de9, co9, ma9, ru9, fo9, pu8, ta8, qu8, im8, su8, Q8, so8, hs8, ol8, ct8, n8, rfl, rfl, -, -, hK8, -⟩ := cycles_rel (e := 1 + k) (by omega) hK (by omega) hH9 u5 t5 sh de co ma (runM pr ta N) fo hz un6 tp6 sh6 de6 co6 ma6 ru6 fo6 z6
  have hx := Option.some.inj (l1.symm.trans l2)
  simp only [Prod.mk.injEq] at hx
  obtain ⟨-, -, -, -, -, -, -, -, hp1, hp2, hp3, hp4, hp5, hp6, -, hp7, hp8⟩ := hx
  subst hp1 hp2 hp3 hp4 hp5 hp7 hp8
  rw [l3, Option.bind_some]
  dsimp only
  rw [if_pos rfl, ← hp6, eh2, Option.bind_some, if_pos (s0 h2), cycles21, Option.bind_some]
  dsimp only
  rw [if_pos rfl, add_bad, Option.bind_some]
  dsimp only
  rw [if_pos rfl, select_bad, Option.bind_some]
  dsimp only
  rw [if_pos rfl, pulse_bad (by omega) hN, Option.bind_some]
  dsimp only
  rw [if_pos rfl, imp_bad1, Option.bind_some, if_pos rfl, imp_bad2, Option.bind_some, if_pos rfl, forbid_bad (by omega) hN, Option.bind_some]
  dsimp only
  rw [if_pos rfl]

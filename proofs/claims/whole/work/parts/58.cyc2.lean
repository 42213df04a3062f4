theorem run_ok {pr pu ta se qu im : Nat → Int32} {su : Nat → Int64} {cn so : Int32} {row : Nat → Int32} {tot : Nat → Int64} {N S Q : Nat} (hB : BR pr pu ta se qu im su (nI N) (nI S) (nI Q) cn so row tot 0) (hN : N ≤ 8) (hS : S ≤ 8) (hQ : Q ≤ 10) (hp : ∀ i, i < N → PV pr i)
    (un : Nat → Nat → Int32) (tp : Nat → Int32) (sh : Nat → Int64) (de co : Int64) (ma ru fo : Int32) (tab goa bes tic : Nat → Int64) (bwh bpr : Int64) (bse : Int32) :
    ∃ (c : (Nat → Nat → Int32) × (Nat → Int32) × (Nat → Int64) × Int64 × Int64 × Int32 × Int32 × Int32) (v : Int32) (pu' ta' qu' im' : Nat → Int32) (su' : Nat → Int64) (Q' : Nat) (f : Int32) (row' : Nat → Int32) (tot' : Nat → Int64) (g : Nat → Int64) (r : (Nat → Int64) × (Nat → Int64) × (Nat → Int64) × Int64 × Int64 × Int32),
      f_X4_runCycle pr se (nI N) (nI S) un tp sh de co ma ru fo pu ta qu im su (nI Q) cn so = some (v, c.1, c.2.1, c.2.2.1, c.2.2.2.1, c.2.2.2.2.1, c.2.2.2.2.2.1, c.2.2.2.2.2.2.1, c.2.2.2.2.2.2.2, pu', ta', qu', im', su', nI Q', cn + 1, soundM pr N) ∧
      f_X5_runs row tot tab goa bes tic bwh bpr bse = some (f, row', tot', r.1, g, r.2.1, r.2.2.1, r.2.2.2.1, r.2.2.2.2.1, r.2.2.2.2.2) ∧
      ((f = 0 ∧ v = -2000000000) ∨ (f = 1 ∧ v = firedM pu' N)) ∧ Q' ≤ 10 ∧ BR pr pu' ta' se qu' im' su' (nI N) (nI S) (nI Q') (cn + 1) (soundM pr N) row' tot' 0 ∧ Out row row' ∧ OutL tot tot' := by
  obtain ⟨hC, e2⟩ := hB.cur hN hp
  obtain ⟨m, m1, m2, m3⟩ := run_of hC e2
  obtain ⟨im1, row1, t1, t2, B1, O1⟩ := take_ok hB hN hQ hp m
  have T : ∃ qu2 Q2 row2, f_X2_takeTarget pr (nI N) qu im (nI Q) m = some (qu2, im1, nI Q2) ∧ Q2 ≤ 10 ∧ BR pr pu ta se qu2 im1 su (nI N) (nI S) (nI Q2) cn so row2 tot 0 ∧ Out row row2 ∧ f_X5_runs row tot tab goa bes tic bwh bpr bse = f_X5_runs_j124 row2 tot tab goa bes tic bwh bpr bse m := by
    unfold f_X2_takeTarget f_X5_runs
    rw [t1, m2, Option.bind_some, Option.bind_some, t2, Option.bind_some, gd_t (show ib 68 708 = true from by decide)]
    have e68 : row1 (68 : Int32).toNatClampNeg = nI Q := b_rc B1
    by_cases c : Q = 0
    · subst c
      have n1 : nI 0 ≤ 0 := by decide
      rw [if_pos n1, if_pos (show row1 (68 : Int32).toNatClampNeg ≤ 0 from by rw [e68]; exact n1)]
      exact ⟨qu, 0, row1, rfl, hQ, B1, O1, rfl⟩
    · have n1 : ¬ nI Q ≤ 0 := nI_ge (a := 0) (b := Q) (by omega) (by omega)
      rw [if_neg n1, if_neg (show ¬ row1 (68 : Int32).toNatClampNeg ≤ 0 from by rw [e68]; exact n1)]
      obtain ⟨q4, row', h1, h2, h3, h4, h5⟩ := rem_ok (i := 0) hQ (by omega) (fun k hk => b_qu B1 hk) (b_rc B1)
      rw [show f_X2_removeRequest qu (nI Q) 0 = some (q4, nI (Q - 1)) from h1, show f_X5_takes row1 0 = some row' from h2]
      refine ⟨q4, Q - 1, row', rfl, by omega, B1.n_qu h3 h4 h5, fun k hk => ?_, rfl⟩
      rw [h5 k (by omega) (by omega)]; exact O1 k hk
  obtain ⟨qu2, Q2, row2, c1, hQ2, B2, O2, hR⟩ := T
  obtain ⟨hC2, e22⟩ := B2.cur hN hp
  obtain ⟨c, r, x1, x2, h01, hf, f1, f2, f3, -, f4, f5, f6⟩ := find_rel hC2 e22 hS (b_sc B2) (fun k hk => b_se B2 hk) un tp sh de co ma ru fo (im1 6) (im1 7) (im1 8) goa tab bes tic bwh bpr bse
  obtain ⟨⟨pu3, so3, re3⟩, row3, s1, s2, B3, O3, hso, hre, hz⟩ := sets_ok B2 hN hp f1 f4 f5 (fun k hk => (f6 k hk).1) (fo := r.1) (fun h k hk => (f6 k hk).2.elim id (fun h' => absurd (h.symm.trans h'.1) (by decide)))
  replace B3 : BR pr pu3 ta se qu2 im1 su (nI N) (nI S) (nI Q2) cn so3 row3 tot 0 := B3
  replace hso : so3 = soundM pr N := hso
  replace hre : re3 = firedM pu3 N := hre
  replace hz : ∀ k, k < N → c.2.2.1 k = 0 → pu3 k = 0 := hz
  subst hso hre
  have hm0 : ∀ i, i < N → m.toBitVec.getLsbD i = true → pu3 i = 0 := by
    intro i hi hb
    refine hz i hi ((f6 i (by omega)).2.elim id (fun h' => ?_))
    have := (m3 i (by omega) hb).2
    rw [h'.2.2] at this
    exact absurd this (by decide)
  obtain ⟨⟨im4, su4⟩, ⟨row4, tot4⟩, d1, d2, B4, O4, L4⟩ := give_ok B3 hN hp m
  replace B4 : BR pr pu3 ta se qu2 im4 su4 (nI N) (nI S) (nI Q2) cn (soundM pr N) row4 tot4 0 := B4
  replace O4 : Out row3 row4 := O4
  replace L4 : OutL tot tot4 := L4
  obtain ⟨ta5, row5, b1, b2, B5, O5⟩ := burn_ok B4 hN hp m hm0
  have OA : Out row row5 := fun k hk => (O5 k hk).trans ((O4 k hk).trans ((O3 k hk).trans (O2 k hk)))
  have E5 : f_X5_runs_j124 row2 tot tab goa bes tic bwh bpr bse m = some (r.1, upd row5 117 (cn + 1), tot4, r.2.1, gtri goa (im1 6) (im1 7) (im1 8), r.2.2.1, r.2.2.2.1, r.2.2.2.2.1, r.2.2.2.2.2.1, r.2.2.2.2.2.2) := by
    have a6 : row2 105 = im1 6 := b_im B2 (k := 6) (by decide)
    have a7 : row2 106 = im1 7 := b_im B2 (k := 7) (by decide)
    have a8 : row2 107 = im1 8 := b_im B2 (k := 8) (by decide)
    have a17 : row5 117 = cn := b_cn B5
    unfold f_X5_runs_j124
    rw [gd_t (show ib 105 708 = true from by decide), gd_t (show ib 106 708 = true from by decide), gd_t (show ib 107 708 = true from by decide)]
    show (f_X5_aims goa (row2 105) (row2 106) (row2 107)).bind _ = _
    rw [a6, a7, a8, aims_ok, Option.bind_some, x2, Option.bind_some, gd_t (show ib 116 708 = true from by decide), ← f2]
    show (lp _ 1000 (upd row2 116 0, 0)).bind _ = _
    rw [s2, Option.bind_some, d2, Option.bind_some]
    show (lp (f_X5_runs_b375 m) 1000 (row4, 0)).bind _ = _
    rw [b2, Option.bind_some, gd_t (show ib 117 708 = true from by decide), gd_t (show ib 117 708 = true from by decide), gd_t (show zb r.1 = true from by rcases h01 with h | h <;> rw [h] <;> rfl)]
    show some (r.1, upd row5 117 (row5 117 + 1), _) = _
    rw [a17]
  have E4 : f_X4_runCycle pr se (nI N) (nI S) un tp sh de co ma ru fo pu ta qu im su (nI Q) cn so = if r.1 = 0 then some ((-2000000000), c.1, c.2.1, c.2.2.1, c.2.2.2.1, c.2.2.2.2.1, c.2.2.2.2.2.1, c.2.2.2.2.2.2.1, c.2.2.2.2.2.2.2, pu3, ta5, qu2, im4, su4, nI Q2, cn + 1, soundM pr N) else some (firedM pu3 N, c.1, c.2.1, c.2.2.1, c.2.2.2.1, c.2.2.2.2.1, c.2.2.2.2.2.1, c.2.2.2.2.2.2.1, c.2.2.2.2.2.2.2, pu3, ta5, qu2, im4, su4, nI Q2, cn + 1, soundM pr N) := by
    unfold f_X4_runCycle
    rw [m1, Option.bind_some, c1, Option.bind_some]
    dsimp only
    rw [show f_X2_impulsePart im1 2 0 = some (im1 6) from rfl, show f_X2_impulsePart im1 2 1 = some (im1 7) from rfl, show f_X2_impulsePart im1 2 2 = some (im1 8) from rfl, Option.bind_some, Option.bind_some, Option.bind_some, x1, Option.bind_some]
    unfold f_X2_setPulses
    rw [s1, Option.bind_some, Option.bind_some]
    unfold f_X2_deliver
    dsimp only
    rw [d1, Option.bind_some, Option.bind_some]
    unfold f_X2_burn
    rw [b1, Option.bind_some, Option.bind_some]
    simp only [hf]
  refine ⟨c, if r.1 = 0 then -2000000000 else firedM pu3 N, pu3, ta5, qu2, im4, su4, Q2, r.1, upd row5 117 (cn + 1), tot4, gtri goa (im1 6) (im1 7) (im1 8), r.2, ?_, hR.trans E5, ?_, hQ2, B5.u_cn (cn + 1), OA.u (by decide) _, L4⟩
  · rw [E4]; split <;> rfl
  · rcases h01 with h | h
    · left; exact ⟨h, if_pos h⟩
    · right; exact ⟨h, if_neg (by rw [h]; decide)⟩
theorem Val.so1 {pr se : Nat → Int32} {N Q : Nat} {tc sc rc so : Int32} (h : Val pr se tc sc rc so) (e1 : tc = nI N) (hN : N ≤ 8) (hQ : Q ≤ 10) : Val pr se tc sc (nI Q) (soundM pr N) := by
  obtain ⟨N', S', Q', h1, h2, h3, h4, h5, h6, h7, h8, -⟩ := h
  have : N' = N := nI_inj (by omega) (by omega) (h1.symm.trans e1)
  subst this
  exact ⟨N', S', Q, h1, h2, h3, h4, rfl, hQ, h7, h8, soundM_val pr N' h2⟩
theorem firedM_nn (pu : Nat → Int32) : ∀ n, n ≤ 8 → nn (firedM pu n)
  | 0, _ => by unfold nn firedM; decide
  | n + 1, h => by
    show nn (firedM pu n ||| _)
    refine nn_or (firedM_nn pu n (by omega)) ?_
    split
    · unfold nn; decide
    · exact nn_sh n (by omega)
theorem eq_cycle {un : Nat → Nat → Int32} {tp : Nat → Int32} {sh : Nat → Int64} {de : Int64} {co : Int64} {ma : Int32} {ru : Int32} {fo : Int32} {pr : Nat → Int32} {pu : Nat → Int32} {ta : Nat → Int32} {se : Nat → Int32} {qu : Nat → Int32} {im : Nat → Int32} {su : Nat → Int64} {tc : Int32} {sc : Int32} {rc : Int32} {cn : Int32} {so : Int32} {bt : Nat → Int32} {le : Int32} {hs : Nat → SV} {ol : Int32} {ct : Int32} {row : Nat → Int32} {tot : Nat → Int64} {tab : Nat → Int64} {goa : Nat → Int64} {bes : Nat → Int64} {tic : Nat → Int64} {txt : Nat → Int32} {sav : Int32} {bwh : Int64} {bpr : Int64} {bse : Int32} {len : Int32} (hI : Inv pr pu ta se qu im su tc sc rc cn so hs ol ct bt le row tot sav txt len) : ∃ q4 q5, f_X4_cycle pr se tc sc un tp sh de co ma ru fo pu ta qu im su rc cn so hs ol ct = some q4 ∧ f_X5_cycle row tot tab goa bes tic sav bwh bpr bse = some q5 ∧ q4.1 = q5.1 ∧ Inv pr q4.2.2.2.2.2.2.2.2.2.1 q4.2.2.2.2.2.2.2.2.2.2.1 se q4.2.2.2.2.2.2.2.2.2.2.2.1 q4.2.2.2.2.2.2.2.2.2.2.2.2.1 q4.2.2.2.2.2.2.2.2.2.2.2.2.2.1 tc sc q4.2.2.2.2.2.2.2.2.2.2.2.2.2.2.1 q4.2.2.2.2.2.2.2.2.2.2.2.2.2.2.2.1 q4.2.2.2.2.2.2.2.2.2.2.2.2.2.2.2.2.1 q4.2.2.2.2.2.2.2.2.2.2.2.2.2.2.2.2.2.1 q4.2.2.2.2.2.2.2.2.2.2.2.2.2.2.2.2.2.2.1 q4.2.2.2.2.2.2.2.2.2.2.2.2.2.2.2.2.2.2.2 bt le q5.2.1 q5.2.2.1 q5.2.2.2.2.2.2.2.1 txt len := by
  obtain ⟨k, q, hk, hq, q1, q2, hH⟩ := rec_ok hI
  obtain ⟨hB, hV, hHi, hT⟩ := id hI
  obtain ⟨N, S, Q, rfl, hN, rfl, hS, rfl, hQ, hp, -⟩ := id hV
  have B0 := hB.same q1 q2
  obtain ⟨c, v, pu', ta', qu', im', su', Q', f, row', tot', g, r, e4, e5, hv, hQ', B', O', L'⟩ := run_ok B0 hN hS hQ hp un tp sh de co ma ru fo tab goa bes tic bwh bpr bse
  obtain ⟨hC, e2⟩ := B'.cur hN hp
  unfold f_X4_cycle f_X5_cycle
  rw [hk, hq, Option.bind_some, Option.bind_some, e4, e5, Option.bind_some, Option.bind_some]
  have hF := fired_ok hC e2 (fun i hi => b_pu B' (show i < 8 by omega))
  have hI' := (⟨B', hV.so1 rfl hN hQ', hH.to (fun m hm => O' m hm) (fun m hm => L' m hm), hT⟩ : Inv pr pu' ta' se qu' im' su' (nI N) (nI S) (nI Q') (cn + 1) (soundM pr N) k.1 k.2.1 k.2.2 bt le row' tot' q.2.2 txt len)
  dsimp only
  rcases hv with ⟨rfl, rfl⟩ | ⟨rfl, rfl⟩
  · rw [if_pos rfl]
    exact ⟨_, _, rfl, rfl, rfl, hI'⟩
  · rw [if_neg (by decide), hF, Option.bind_some]
    exact ⟨_, _, rfl, rfl, rfl, hI'⟩
theorem wi20 (a : Int32) : (f_X4_isWithin a 1 20 = some 0) ∨ (f_X4_isWithin a 1 20 = some 1 ∧ ∃ k, k ≤ 20 ∧ a = nI k) := by
  rcases wi a 1 20 with ⟨h, -⟩ | ⟨h, h1, h2⟩
  · exact .inl h
  · right
    refine ⟨h, ?_⟩
    rcases wi a 0 (nI 20) with ⟨-, h3⟩ | ⟨h3, -⟩
    · exfalso
      rw [Int32.lt_iff_toInt_lt] at h1 h2
      rcases h3 with h3 | h3
      · rw [Int32.lt_iff_toInt_lt] at h3
        have z : (0 : Int32).toInt = 0 := by decide
        have o : (1 : Int32).toInt = 1 := by decide
        omega
      · rw [Int32.lt_iff_toInt_lt] at h3
        exact h2 h3
    · rcases wi0 a 20 (by decide) with h4 | ⟨-, h4⟩
      · rw [h3] at h4; exact absurd (Option.some.inj h4) (by decide)
      · exact h4
/-- one cycle of several -/
def CJ (pr se : Nat → Int32) (N S : Nat) (row0 : Nat → Int32) (tot0 : Nat → Int64) (pu ta qu im : Nat → Int32) (su : Nat → Int64) (rc cn so : Int32) (row : Nat → Int32) (tot : Nat → Int64) : Prop :=
  BR pr pu ta se qu im su (nI N) (nI S) rc cn so row tot 0 ∧ Val pr se (nI N) (nI S) rc so ∧ Out row0 row ∧ OutL tot0 tot
theorem cycles_ok {pr se : Nat → Int32} {N S : Nat} {row0 : Nat → Int32} {tot0 : Nat → Int64} (hN : N ≤ 8) (hS : S ≤ 8) (hp : ∀ i, i < N → PV pr i) (e : Nat) (he : e ≤ 20)
    (un : Nat → Nat → Int32) (tp : Nat → Int32) (sh : Nat → Int64) (de co : Int64) (ma ru fo : Int32) (pu ta qu im : Nat → Int32) (su : Nat → Int64) (rc cn so : Int32) (tab goa bes tic : Nat → Int64) (bwh bpr : Int64) (bse : Int32)
    (h0 : CJ pr se N S row0 tot0 pu ta qu im su rc cn so row0 tot0) :
    ∃ (r1 : (Nat → Nat → Int32) × (Nat → Int32) × (Nat → Int64) × Int64 × Int64 × Int32 × Int32 × Int32 × (Nat → Int32) × (Nat → Int32) × (Nat → Int32) × (Nat → Int32) × (Nat → Int64) × Int32 × Int32 × Int32 × Int32) (r2 : (Nat → Int32) × (Nat → Int64) × (Nat → Int64) × (Nat → Int64) × (Nat → Int64) × (Nat → Int64) × Int64 × Int64 × Int32 × Int32),
      lp (f_X4_cycles_b28 pr se (nI N) (nI S) (nI e)) 1000 (un, tp, sh, de, co, ma, ru, fo, pu, ta, qu, im, su, rc, cn, so, 0, 0) = some r1 ∧ lp (f_X5_cycles_b21 (nI e)) 1000 (row0, tot0, tab, goa, bes, tic, bwh, bpr, bse, 0, 0) = some r2 ∧
      CJ pr se N S row0 tot0 r1.2.2.2.2.2.2.2.2.1 r1.2.2.2.2.2.2.2.2.2.1 r1.2.2.2.2.2.2.2.2.2.2.1 r1.2.2.2.2.2.2.2.2.2.2.2.1 r1.2.2.2.2.2.2.2.2.2.2.2.2.1 r1.2.2.2.2.2.2.2.2.2.2.2.2.2.1 r1.2.2.2.2.2.2.2.2.2.2.2.2.2.2.1 r1.2.2.2.2.2.2.2.2.2.2.2.2.2.2.2.1 r2.1 r2.2.1 ∧ r1.2.2.2.2.2.2.2.2.2.2.2.2.2.2.2.2 = r2.2.2.2.2.2.2.2.2.2 := by
  refine lp_rel (fun i (s1 : (Nat → Nat → Int32) × (Nat → Int32) × (Nat → Int64) × Int64 × Int64 × Int32 × Int32 × Int32 × (Nat → Int32) × (Nat → Int32) × (Nat → Int32) × (Nat → Int32) × (Nat → Int64) × Int32 × Int32 × Int32 × Int32 × Int32) (s2 : (Nat → Int32) × (Nat → Int64) × (Nat → Int64) × (Nat → Int64) × (Nat → Int64) × (Nat → Int64) × Int64 × Int64 × Int32 × Int32 × Int32) =>
      CJ pr se N S row0 tot0 s1.2.2.2.2.2.2.2.2.1 s1.2.2.2.2.2.2.2.2.2.1 s1.2.2.2.2.2.2.2.2.2.2.1 s1.2.2.2.2.2.2.2.2.2.2.2.1 s1.2.2.2.2.2.2.2.2.2.2.2.2.1 s1.2.2.2.2.2.2.2.2.2.2.2.2.2.1 s1.2.2.2.2.2.2.2.2.2.2.2.2.2.2.1 s1.2.2.2.2.2.2.2.2.2.2.2.2.2.2.2.1 s2.1 s2.2.1 ∧ s1.2.2.2.2.2.2.2.2.2.2.2.2.2.2.2.2.1 = s2.2.2.2.2.2.2.2.2.2.1 ∧ s1.2.2.2.2.2.2.2.2.2.2.2.2.2.2.2.2.2 = nI i ∧ s2.2.2.2.2.2.2.2.2.2.2 = nI i) e
    (fun (r1 : (Nat → Nat → Int32) × (Nat → Int32) × (Nat → Int64) × Int64 × Int64 × Int32 × Int32 × Int32 × (Nat → Int32) × (Nat → Int32) × (Nat → Int32) × (Nat → Int32) × (Nat → Int64) × Int32 × Int32 × Int32 × Int32) (r2 : (Nat → Int32) × (Nat → Int64) × (Nat → Int64) × (Nat → Int64) × (Nat → Int64) × (Nat → Int64) × Int64 × Int64 × Int32 × Int32) => CJ pr se N S row0 tot0 r1.2.2.2.2.2.2.2.2.1 r1.2.2.2.2.2.2.2.2.2.1 r1.2.2.2.2.2.2.2.2.2.2.1 r1.2.2.2.2.2.2.2.2.2.2.2.1 r1.2.2.2.2.2.2.2.2.2.2.2.2.1 r1.2.2.2.2.2.2.2.2.2.2.2.2.2.1 r1.2.2.2.2.2.2.2.2.2.2.2.2.2.2.1 r1.2.2.2.2.2.2.2.2.2.2.2.2.2.2.2.1 r2.1 r2.2.1 ∧ r1.2.2.2.2.2.2.2.2.2.2.2.2.2.2.2.2 = r2.2.2.2.2.2.2.2.2.2) ?_ 1000 0 _ _ (by omega) (by omega) ⟨h0, rfl, rfl, rfl⟩
  rintro i ⟨un, tp, sh, de, co, ma, ru, fo, pu, ta, qu, im, su, rc, cn, so, ct, y1⟩ ⟨rw1, tot1, tab, goa, bes, tic, bwh, bpr, bse, ct2, y2⟩ hi ⟨hJ, hc, g1, g2⟩
  replace g1 : y1 = nI i := g1
  replace g2 : y2 = nI i := g2
  replace hc : ct = ct2 := hc
  replace hJ : CJ pr se N S row0 tot0 pu ta qu im su rc cn so rw1 tot1 := hJ
  subst g1 g2 hc
  obtain ⟨hB, hV, hO, hL⟩ := hJ
  obtain ⟨N', S', Q, -, -, -, -, rfl, hQ, -, -⟩ := id hV
  unfold f_X4_cycles_b28 f_X5_cycles_b21
  dsimp only
  by_cases c : i < e
  · left
    refine ⟨c, ?_⟩
    rw [if_neg (nI_ge c (by omega)), if_neg (nI_ge c (by omega))]
    obtain ⟨c', v, pu', ta', qu', im', su', Q', f, row', tot', g, r, e4, e5, hv, hQ', B', O', L'⟩ := run_ok hB hN hS hQ hp un tp sh de co ma ru fo tab goa bes tic bwh bpr bse
    rw [e4, e5, Option.bind_some, Option.bind_some]
    dsimp only
    have hJ' : CJ pr se N S row0 tot0 pu' ta' qu' im' su' (nI Q') (cn + 1) (soundM pr N) row' tot' := ⟨B', hV.so1 rfl hN hQ', fun m hm => (O' m hm).trans (hO m hm), fun m hm => (L' m hm).trans (hL m hm)⟩
    rcases hv with ⟨rfl, rfl⟩ | ⟨rfl, rfl⟩
    · rw [if_pos rfl, if_pos rfl]
      refine ⟨_, _, rfl, rfl, hJ', ?_, nI_add i 1, nI_add i 1⟩
      show ct = ct + 0
      rw [Int32.add_zero]
    · rw [if_neg (show ¬ firedM pu' N = -2000000000 from fun h => nn_lt (firedM_nn pu' N hN) (by rw [h]; decide)), if_neg (by decide)]
      exact ⟨_, _, rfl, rfl, hJ', rfl, nI_add i 1, nI_add i 1⟩
  · right
    have : i = e := by omega
    subst this
    rw [if_pos (Int32.le_refl _), if_pos (Int32.le_refl _)]
    exact ⟨_, _, rfl, rfl, ⟨hB, hV, hO, hL⟩, rfl⟩
theorem eq_cycles {un : Nat → Nat → Int32} {tp : Nat → Int32} {sh : Nat → Int64} {de : Int64} {co : Int64} {ma : Int32} {ru : Int32} {fo : Int32} {pr : Nat → Int32} {pu : Nat → Int32} {ta : Nat → Int32} {se : Nat → Int32} {qu : Nat → Int32} {im : Nat → Int32} {su : Nat → Int64} {tc : Int32} {sc : Int32} {rc : Int32} {cn : Int32} {so : Int32} {bt : Nat → Int32} {le : Int32} {hs : Nat → SV} {ol : Int32} {ct : Int32} {row : Nat → Int32} {tot : Nat → Int64} {tab : Nat → Int64} {goa : Nat → Int64} {bes : Nat → Int64} {tic : Nat → Int64} {txt : Nat → Int32} {sav : Int32} {bwh : Int64} {bpr : Int64} {bse : Int32} {len : Int32} (p0 : Int32) (hI : Inv pr pu ta se qu im su tc sc rc cn so hs ol ct bt le row tot sav txt len) : ∃ q4 q5, f_X4_cycles pr se tc sc un tp sh de co ma ru fo pu ta qu im su rc cn so hs ol ct p0 = some q4 ∧ f_X5_cycles row tot tab goa bes tic sav bwh bpr bse p0 = some q5 ∧ q4.1 = q5.1 ∧ Inv pr q4.2.2.2.2.2.2.2.2.2.1 q4.2.2.2.2.2.2.2.2.2.2.1 se q4.2.2.2.2.2.2.2.2.2.2.2.1 q4.2.2.2.2.2.2.2.2.2.2.2.2.1 q4.2.2.2.2.2.2.2.2.2.2.2.2.2.1 tc sc q4.2.2.2.2.2.2.2.2.2.2.2.2.2.2.1 q4.2.2.2.2.2.2.2.2.2.2.2.2.2.2.2.1 q4.2.2.2.2.2.2.2.2.2.2.2.2.2.2.2.2.1 q4.2.2.2.2.2.2.2.2.2.2.2.2.2.2.2.2.2.1 q4.2.2.2.2.2.2.2.2.2.2.2.2.2.2.2.2.2.2.1 q4.2.2.2.2.2.2.2.2.2.2.2.2.2.2.2.2.2.2.2 bt le q5.2.1 q5.2.2.1 q5.2.2.2.2.2.2.2.1 txt len := by
  unfold f_X4_cycles f_X5_cycles
  rw [in_eq]
  rcases wi20 p0 with h | ⟨h, e, he, rfl⟩
  · rw [h]; exact ⟨_, _, rfl, rfl, rfl, hI⟩
  · rw [h]
    simp only [n10, ↓reduceIte, Option.bind_some]
    obtain ⟨k, q, hk, hq, q1, q2, hH⟩ := rec_ok hI
    obtain ⟨hB, hV, hHi, hT⟩ := id hI
    obtain ⟨N, S, Q, rfl, hN, rfl, hS, rfl, hQ, hp, -⟩ := id hV
    have B0 := hB.same q1 q2
    obtain ⟨r1, r2, l1, l2, ⟨B', V', O', L'⟩, hc⟩ := cycles_ok hN hS hp e he un tp sh de co ma ru fo pu ta qu im su (nI Q) cn so tab goa bes tic bwh bpr bse ⟨B0, hV, fun _ _ => rfl, fun _ _ => rfl⟩
    rw [hk, hq, Option.bind_some, Option.bind_some, l1, l2, Option.bind_some, Option.bind_some]
    exact ⟨_, _, rfl, rfl, hc, B', V', hH.to (fun m hm => O' m hm) (fun m hm => L' m hm), hT⟩


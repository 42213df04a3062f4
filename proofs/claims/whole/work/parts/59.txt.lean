theorem readsAll_of {txt row par : Nat → Int32} {len mat ask md : Int32} {q : (Nat → Int32) × (Nat → Int32) × Int32 × Int32 × Int32} {m : Nat} (hm : m = 1000)
    (h : (f_X5_readsRequest txt len row par 0 (row 68) md).bind (fun q2 => (f_X5_here txt len q2.2.2.2.1).bind (fun q3 => lp (f_X5_readsAll_b27 txt len md) m (q2.2.1, q2.2.2.1, q3.2, q2.2.2.2.2, q2.1, q3.1))) = some q) :
    f_X5_readsAll txt len row par mat ask md = gd (zb q.2.2.2.2) (some (q.2.2.2.2, q.1, q.2.1, q.2.2.1, q.2.2.2.1)) := by
  subst hm
  unfold f_X5_readsAll
  rw [gd_t (show ib 68 708 = true from by decide)]
  show (f_X5_readsRequest txt len row par 0 (row 68) md).bind _ = _
  cases h1 : f_X5_readsRequest txt len row par 0 (row 68) md with
  | none => rw [h1] at h; exact absurd h (by simp)
  | some q2 =>
    rw [h1, Option.bind_some] at h
    rw [Option.bind_some]
    cases h2 : f_X5_here txt len q2.2.2.2.1 with
    | none => rw [h2] at h; exact absurd h (by simp)
    | some q3 =>
      rw [h2, Option.bind_some] at h
      rw [Option.bind_some, h, Option.bind_some]
def InsR (qu0 : Nat → Int32) (rc0 : Int32) (pa ug : Nat → Int32) : Nat → (Nat → Int32) → Int32 → Prop
  | 0, q, r => q = qu0 ∧ r = rc0
  | i + 1, q, r => ∃ q' r', InsR qu0 rc0 pa ug i q' r' ∧ f_X2_insertRequest q' r' (pa (3 * i)) (pa (3 * i + 1)) (pa (3 * i + 2)) (ug i) = some (q, r)
theorem InsR_c {qu0 : Nat → Int32} {rc0 : Int32} {pa ug pa' ug' : Nat → Int32} : ∀ i q r, (∀ k, k < 3 * i → pa' k = pa k) → (∀ k, k < i → ug' k = ug k) → InsR qu0 rc0 pa ug i q r → InsR qu0 rc0 pa' ug' i q r
  | 0, q, r, _, _, h => h
  | i + 1, q, r, h1, h2, h => by
    obtain ⟨q', r', a, b⟩ := h
    refine ⟨q', r', InsR_c i q' r' (fun k hk => h1 k (by omega)) (fun k hk => h2 k (by omega)) a, ?_⟩
    rw [h1 _ (by omega), h1 _ (by omega), h1 _ (by omega), h2 _ (by omega)]
    exact b
theorem ins_lp {qu0 : Nat → Int32} {rc0 : Int32} {pa ug : Nat → Int32} {R : Nat} (hR : R ≤ 10) : ∀ i q r, i ≤ R → InsR qu0 rc0 pa ug i q r → ∀ m, lp (f_X4_load_b38 pa ug (nI R)) (m + i) (qu0, rc0, 0) = lp (f_X4_load_b38 pa ug (nI R)) m (q, r, nI i)
  | 0, q, r, _, h, m => by
    obtain ⟨rfl, rfl⟩ := h
    rfl
  | i + 1, q, r, hi, h, m => by
    obtain ⟨q', r', a, b⟩ := h
    have := ins_lp hR i q' r' (by omega) a (m + 1)
    rw [show m + (i + 1) = m + 1 + i from by omega, this]
    show (f_X4_load_b38 pa ug (nI R) (q', r', nI i)).bind _ = _
    have e : f_X4_load_b38 pa ug (nI R) (q', r', nI i) = some (Sum.inl (q, r, nI (i + 1))) := by
      unfold f_X4_load_b38
      dsimp only
      have i0 : nI i * 3 = nI (3 * i) := by rw [show (3 : Int32) = nI 3 from rfl, nI_mulL, Nat.mul_comm]
      rw [if_neg (nI_ge (by omega) (by omega)), i0, show nI (3 * i) + 1 = nI (3 * i + 1) from nI_add _ 1, show nI (3 * i) + 2 = nI (3 * i + 2) from nI_add _ 2, gd_n (by omega), gd_n (by omega), gd_n (by omega), gd_n (by omega), nI_clamp (by omega), nI_clamp (by omega), nI_clamp (by omega), nI_clamp (by omega), b, Option.bind_some, show nI i + 1 = nI (i + 1) from nI_add i 1]
    rw [e]; rfl
theorem Txt.tx {bt txt : Nat → Int32} {le len : Int32} (h : Txt bt le txt len) : ∃ n, le = nI n ∧ len = nI n ∧ TX bt txt n := by
  obtain ⟨n, h1, h2, h3, h4⟩ := h
  exact ⟨n, h2, h3, h1, h4⟩
theorem P0 (row0 : Nat → Int32) : ∀ (i : Nat) (row pa ug : Nat → Int32) (u : Int32) (par' pa' : Nat → Int32), row = row0 → ∃ row', stepRow 0 row u par' = some row' ∧ row' = row0 := by
  intro i row pa ug u par' pa' h
  exact ⟨row, if_pos rfl, h⟩
theorem pass0 {bt txt : Nat → Int32} {n : Nat} (hT : TX bt txt n) {Q : Nat} (hQ : Q ≤ 10) {row : Nat → Int32} (h68 : row 68 = nI Q) (pa ug par : Nat → Int32) (rn ax fa mat ask : Int32) :
    ∃ c q, f_X3_read bt (nI n) pa ug rn ax fa (10 - nI Q) = some c ∧ f_X5_readsAll txt (nI n) row par mat ask 0 = some q ∧ q.2.1 = row ∧ ((c.1 = -2000000000 ∧ q.1 = 1) ∨ (∃ s, s < 2 ^ 31 ∧ c.1 = nI s ∧ q.1 = 0 ∧ q.2.2.2.1 = nI s)) := by
  obtain ⟨o, q, l1, l2, h⟩ := all_ok hT hQ 0 (fun _ r _ _ => r = row) (fun i r pa ug u par' pa' _ h _ _ _ => P0 row i r pa ug u par' pa' h) (10 - Q) 0 0 (by omega) (by omega) pa ug row par (989 + Q) (988 + Q) rfl
  have hn := hT.1
  rw [show 989 + Q + (10 - Q) + 1 = 1000 from by omega] at l1
  rw [show Q + 0 = Q from rfl, ← h68] at l2
  have R := readsAll_of (mat := mat) (ask := ask) (by omega) l2
  have C : f_X3_read bt (nI n) pa ug rn ax fa (10 - nI Q) = Sum.elim (fun t1 => some (t1.2.2.2.2, t1.1, t1.2.1, t1.2.2.1, t1.2.2.2.1, t1.2.2.2.2)) (Sum.elim (fun t1 => some (t1.2.2.2.1, t1.1, t1.2.1, t1.2.2.1, t1.2.2.2.1, t1.2.2.2.2)) (fun t1 => some (t1.2.2.2.1, t1.1, t1.2.1, t1.2.2.1, t1.2.2.2.1, t1.2.2.2.2))) o := by
    unfold f_X3_read
    rw [show (10 : Int32) - nI Q = nI (10 - Q) from nI_sub (a := 10) hQ]
    show (lp (f_X3_read_b18 bt (nI n) (nI (10 - Q))) 1000 (pa, ug, nI 0, nI 0, -2000000000, nI 0)).bind _ = _
    rw [l1, Option.bind_some]
  rw [C, R]
  rcases h with ⟨pa', ug', R, x, -, rfl, hq, hr⟩ | ⟨s, pa', ug', rn', y, hs, ho, hq, hm, i, -, -, hr⟩
  · rw [hq]
    exact ⟨_, _, rfl, rfl, hr, .inl ⟨rfl, rfl⟩⟩
  · rw [hq]
    rcases ho with rfl | ⟨f, rfl⟩
    · exact ⟨_, _, rfl, rfl, hr, .inr ⟨s, by omega, rfl, rfl, hm⟩⟩
    · exact ⟨_, _, rfl, rfl, hr, .inr ⟨s, by omega, rfl, rfl, hm⟩⟩
theorem eq_textFault {pr : Nat → Int32} {pu : Nat → Int32} {ta : Nat → Int32} {se : Nat → Int32} {qu : Nat → Int32} {im : Nat → Int32} {su : Nat → Int64} {tc : Int32} {sc : Int32} {rc : Int32} {cn : Int32} {so : Int32} {bt : Nat → Int32} {pa : Nat → Int32} {ug : Nat → Int32} {le : Int32} {rn : Int32} {ax : Int32} {fa : Int32} {hs : Nat → SV} {ol : Int32} {ct : Int32} {row : Nat → Int32} {tot : Nat → Int64} {txt : Nat → Int32} {par : Nat → Int32} {sav : Int32} {len : Int32} {mat : Int32} {ask : Int32} (hI : Inv pr pu ta se qu im su tc sc rc cn so hs ol ct bt le row tot sav txt len) : ∃ q4 q5, f_X4_textFault rc bt le pa ug rn ax fa = some q4 ∧ f_X5_textFault txt len row par mat ask = some q5 ∧ q4.1 = q5.1 ∧ Inv pr pu ta se qu im su tc sc rc cn so hs ol ct bt le q5.2.1 tot sav txt len := by
  obtain ⟨hB, hV, hHi, hTx⟩ := id hI
  obtain ⟨n, rfl, rfl, hT⟩ := hTx.tx
  obtain ⟨N, S, Q, -, -, -, -, rfl, hQ, -, -⟩ := id hV
  obtain ⟨c, q, e1, e2, h1, h2⟩ := pass0 hT hQ (b_rc hB) pa ug par rn ax fa mat ask
  unfold f_X4_textFault f_X5_textFault
  rw [e1, e2, Option.bind_some, Option.bind_some]
  rcases h2 with ⟨h2, h3⟩ | ⟨s, -, h2, h3, h4⟩
  · rw [if_neg (by rw [h3]; decide)]
    refine ⟨_, _, rfl, rfl, h2, ?_⟩
    show Inv pr pu ta se qu im su tc sc (nI Q) cn so hs ol ct bt (nI n) q.2.1 tot sav txt (nI n)
    rw [h1]; exact hI
  · rw [if_pos h3]
    refine ⟨_, _, rfl, rfl, h2.trans h4.symm, ?_⟩
    show Inv pr pu ta se qu im su tc sc (nI Q) cn so hs ol ct bt (nI n) q.2.1 tot sav txt (nI n)
    rw [h1]; exact hI
theorem eq_load {pr : Nat → Int32} {pu : Nat → Int32} {ta : Nat → Int32} {se : Nat → Int32} {qu : Nat → Int32} {im : Nat → Int32} {su : Nat → Int64} {tc : Int32} {sc : Int32} {rc : Int32} {cn : Int32} {so : Int32} {bt : Nat → Int32} {pa : Nat → Int32} {ug : Nat → Int32} {le : Int32} {rn : Int32} {ax : Int32} {fa : Int32} {hs : Nat → SV} {ol : Int32} {ct : Int32} {row : Nat → Int32} {tot : Nat → Int64} {txt : Nat → Int32} {par : Nat → Int32} {sav : Int32} {len : Int32} {mat : Int32} {ask : Int32} (hI : Inv pr pu ta se qu im su tc sc rc cn so hs ol ct bt le row tot sav txt len) : ∃ q4 q5, f_X4_load pr pu ta se im su tc sc cn so bt le qu rc pa ug rn ax fa hs ol ct = some q4 ∧ f_X5_load txt len row tot par sav mat ask = some q5 ∧ q4.1 = q5.1 ∧ Inv pr pu ta se q4.2.1 im su tc sc q4.2.2.1 cn so q4.2.2.2.2.2.2.2.2.1 q4.2.2.2.2.2.2.2.2.2.1 q4.2.2.2.2.2.2.2.2.2.2 bt le q5.2.1 q5.2.2.1 q5.2.2.2.2.1 txt len := by
  obtain ⟨hB, hV, hHi, hTx⟩ := id hI
  obtain ⟨n, rfl, rfl, hT⟩ := hTx.tx
  obtain ⟨N, S, Q, -, -, -, -, rfl, hQ, -, -⟩ := id hV
  have hn := hT.1
  obtain ⟨c, q, e1, e2, h1, h2⟩ := pass0 hT hQ (b_rc hB) pa ug par rn ax fa mat ask
  unfold f_X4_load f_X5_load
  rw [e1, e2, Option.bind_some, Option.bind_some]
  rcases h2 with ⟨h2, h3⟩ | ⟨s, hs, h2, h3, -⟩
  · rw [if_pos h2, if_neg (by rw [h3]; decide), h1]
    obtain ⟨k, sv, hk, hq, q1, q2, hH⟩ := rec_ok hI
    rw [hk, hq, Option.bind_some, Option.bind_some]
    have B0 := hB.same q1 q2
    obtain ⟨o, r, l1, l2, h⟩ := all_ok hT hQ 1 (fun i r pa ug => i + Q ≤ 10 ∧ ∃ qi, InsR qu (nI Q) pa ug i qi (nI (Q + i)) ∧ (∀ k, k < 30 → r (69 + k) = qi k) ∧ r 68 = nI (Q + i) ∧ ∀ k, k ≠ 68 → ¬ (69 ≤ k ∧ k < 99) → r k = sv.1 k) (by
        rintro i r pa ug u par' pa' hi ⟨-, qi, a1, a2, a3, a4⟩ hu hk hf
        obtain ⟨q4, row', g1, g2, g3, g4, g5⟩ := ins_ok hi a2 a3 (par' 0) (par' 1) (par' 2) u
        refine ⟨row', ?_, by omega, q4, ⟨qi, nI (Q + i), InsR_c i qi _ (fun k hk => hf k hk) (fun k hk => uu (by omega)) a1, ?_⟩, g3, g4, fun k hk1 hk2 => (g5 k hk1 hk2).trans (a4 k hk1 hk2)⟩
        · unfold stepRow
          rw [if_neg (by decide), a3]; exact g2
        · rw [us, show pa' (3 * i) = par' 0 from hk 0 (by decide), show pa' (3 * i + 1) = par' 1 from hk 1 (by decide), show pa' (3 * i + 2) = par' 2 from hk 2 (by decide)]
          exact g1) (10 - Q) 0 0 (by omega) (by omega) pa ug sv.1 q.2.2.1 (989 + Q) (988 + Q) ⟨by omega, qu, ⟨rfl, rfl⟩, fun k hk => b_qu B0 hk, b_rc B0, fun _ _ _ => rfl⟩
    rw [show 989 + Q + (10 - Q) + 1 = 1000 from by omega] at l1
    rw [show Q + 0 = Q from rfl, ← (b_rc B0 : sv.1 68 = nI Q)] at l2
    have R := readsAll_of (mat := q.2.2.2.1) (ask := q.2.2.2.2) (by omega) l2
    have C : f_X3_read bt (nI n) pa ug rn ax fa (10 - nI Q) = Sum.elim (fun t1 => some (t1.2.2.2.2, t1.1, t1.2.1, t1.2.2.1, t1.2.2.2.1, t1.2.2.2.2)) (Sum.elim (fun t1 => some (t1.2.2.2.1, t1.1, t1.2.1, t1.2.2.1, t1.2.2.2.1, t1.2.2.2.2)) (fun t1 => some (t1.2.2.2.1, t1.1, t1.2.1, t1.2.2.1, t1.2.2.2.1, t1.2.2.2.2))) o := by
      unfold f_X3_read
      rw [show (10 : Int32) - nI Q = nI (10 - Q) from nI_sub (a := 10) hQ]
      show (lp (f_X3_read_b18 bt (nI n) (nI (10 - Q))) 1000 (pa, ug, nI 0, nI 0, -2000000000, nI 0)).bind _ = _
      rw [l1, Option.bind_some]
    rw [C] at e1
    rw [R]
    rcases h with ⟨pa', ug', Rn, x, hRn, rfl, hf, -, qi, a1, a2, a3, a4⟩ | ⟨s, pa', ug', rn', y, hs, ho, hf, hm, -⟩
    · have ec : c = (-2000000000, pa', ug', nI Rn, nI x, -2000000000) := (Option.some.inj e1).symm
      subst ec
      have L := ins_lp (R := Rn) (by omega) Rn qi _ (Nat.le_refl _) a1 (1000 - Rn)
      rw [show 1000 - Rn + Rn = 1000 from by omega] at L
      have L2 : lp (f_X4_load_b38 pa' ug' (nI Rn)) (1000 - Rn) (qi, nI (Q + Rn), nI Rn) = some (qi, nI (Q + Rn)) := by
        rw [show 1000 - Rn = (999 - Rn) + 1 from by omega]
        show (f_X4_load_b38 pa' ug' (nI Rn) (qi, nI (Q + Rn), nI Rn)).bind _ = _
        unfold f_X4_load_b38
        rw [if_pos (Int32.le_refl _)]
        rfl
      dsimp only
      rw [L, L2, hf]
      refine ⟨_, _, rfl, rfl, ?_, ?_⟩
      · show nI (Q + Rn) = r.1 68
        exact a3.symm
      · exact ⟨B0.n_qu a2 a3 a4, hV.rc1 (by omega), hH.to (fun m hm => a4 m (by omega) (by omega)) (fun _ _ => rfl), hTx⟩
    · exfalso
      rcases ho with rfl | ⟨f, rfl⟩
      · have := congrArg Prod.fst (Option.some.inj e1)
        exact OKne (by omega) (this.trans h2)
      · have := congrArg Prod.fst (Option.some.inj e1)
        exact OKne (by omega) (this.trans h2)
  · rw [if_neg (by rw [h2]; exact OKne hs), if_pos h3, h1]
    exact ⟨_, _, rfl, rfl, rfl, hI⟩


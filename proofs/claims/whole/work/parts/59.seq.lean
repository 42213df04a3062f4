/-- the class's whole reading beside the reference's -/
theorem all_ok {bt txt : Nat → Int32} {n : Nat} (hT : TX bt txt n) {Q : Nat} (hQ : Q ≤ 10) (md : Int32) (P : Nat → (Nat → Int32) → (Nat → Int32) → (Nat → Int32) → Prop)
    (hP : ∀ i row pa ug u par' pa', Q + i < 10 → P i row pa ug → (u = 0 ∨ u = 1) → (∀ k, k < 3 → pa' (3 * i + k) = par' k) → (∀ k, k < 3 * i → pa' k = pa k) → ∃ row', stepRow md row u par' = some row' ∧ P (i + 1) row' pa' (upd ug i u)) :
    ∀ d rn p, Q + rn + d = 10 → p ≤ n → ∀ (pa ug row par : Nat → Int32) m1 m2, P rn row pa ug →
      ∃ o q, lp (f_X3_read_b18 bt (nI n) (nI (10 - Q))) (m1 + d + 1) (pa, ug, nI rn, nI p, -2000000000, nI rn) = some o ∧
        (f_X5_readsRequest txt (nI n) row par (nI p) (nI (Q + rn)) md).bind (fun q2 => (f_X5_here txt (nI n) q2.2.2.2.1).bind (fun q3 => lp (f_X5_readsAll_b27 txt (nI n) md) (m2 + d + 2) (q2.2.1, q2.2.2.1, q3.2, q2.2.2.2.2, q2.1, q3.1))) = some q ∧
        ((∃ pa' ug' R x, R + Q ≤ 10 ∧ o = Sum.inl (pa', ug', nI R, nI x, -2000000000) ∧ q.2.2.2.2 = 1 ∧ P R q.1 pa' ug') ∨
         (∃ s pa' ug' rn' y, s ≤ n ∧ (o = Sum.inl (pa', ug', rn', y, nI s) ∨ ∃ f, o = Sum.inr (Sum.inl (pa', ug', rn', nI s, f))) ∧ q.2.2.2.2 = 0 ∧ q.2.2.1 = nI s ∧ ∃ i pa ug, P i q.1 pa ug)) := by
  have hn := hT.1
  intro d
  induction d with
  | zero =>
    intro rn p hd hp pa ug row par m1 m2 h0
    rcases req_ok hT (rn := rn) (Q := Q) (by omega) hp pa ug row par md with ⟨u, pa', par', e, hu, hlt, -⟩ | ⟨pa', ug', rn', x, s, par', ask', hx, hs, e1, e2⟩
    · omega
    · obtain ⟨y, -, -, k1, -⟩ := skip_ok hT hx
      have k2 := (skip_st hT hs).2
      rw [e2, Option.bind_some]
      dsimp only
      rw [k2, Option.bind_some]
      refine ⟨Sum.inl (pa', ug', rn', nI y, nI s), _, ?_, rfl, .inr ⟨s, pa', ug', rn', nI y, hs.1, .inl rfl, rfl, rfl, rn, pa, ug, h0⟩⟩
      show (f_X3_read_b18 bt (nI n) (nI (10 - Q)) (pa, ug, nI rn, nI p, -2000000000, nI rn)).bind _ = _
      have a : f_X3_read_b18 bt (nI n) (nI (10 - Q)) (pa, ug, nI rn, nI p, -2000000000, nI rn) = some (Sum.inr (Sum.inl (pa', ug', rn', nI y, nI s))) := by
        unfold f_X3_read_b18
        dsimp only
        have L : (if (10 : Int32) < nI (10 - Q) then (10 : Int32) else nI (10 - Q)) = nI (10 - Q) := by
          rw [if_neg]
          rw [Int32.lt_iff_toInt_lt, nI_toInt (by omega), show (10 : Int32).toInt = 10 from by decide]; omega
        have G : ¬ (10 : Int32) < nI rn := by
          rw [Int32.lt_iff_toInt_lt, nI_toInt (by omega), show (10 : Int32).toInt = 10 from by decide]; omega
        rw [if_neg G, L, e1, Option.bind_some]
        dsimp only
        rw [k1, Option.bind_some, if_neg (OKne (by have := hs.1; omega))]
      rw [a]; rfl
  | succ d ih =>
    intro rn p hd hp pa ug row par m1 m2 h0
    have L : (if (10 : Int32) < nI (10 - Q) then (10 : Int32) else nI (10 - Q)) = nI (10 - Q) := by
      rw [if_neg]
      rw [Int32.lt_iff_toInt_lt, nI_toInt (by omega), show (10 : Int32).toInt = 10 from by decide]; omega
    have G : ¬ (10 : Int32) < nI rn := by
      rw [Int32.lt_iff_toInt_lt, nI_toInt (by omega), show (10 : Int32).toInt = 10 from by decide]; omega
    have sC : lp (f_X3_read_b18 bt (nI n) (nI (10 - Q))) (m1 + (d + 1) + 1) (pa, ug, nI rn, nI p, -2000000000, nI rn) = (f_X3_read_b18 bt (nI n) (nI (10 - Q)) (pa, ug, nI rn, nI p, -2000000000, nI rn)).bind (Sum.elim (lp (f_X3_read_b18 bt (nI n) (nI (10 - Q))) (m1 + d + 1)) some) := rfl
    have sR : ∀ z, lp (f_X5_readsAll_b27 txt (nI n) md) (m2 + (d + 1) + 2) z = (f_X5_readsAll_b27 txt (nI n) md z).bind (Sum.elim (lp (f_X5_readsAll_b27 txt (nI n) md) (m2 + d + 2)) some) := fun z => rfl
    rw [sC]
    rcases req_ok hT (rn := rn) (Q := Q) (by omega) hp pa ug row par md with ⟨u, pa', par', e, hu, hlt, e1, e2, he, hk, hf⟩ | ⟨pa', ug', rn', x, s, par', ask', hx, hs, e1, e2⟩
    · obtain ⟨row', r1, h1⟩ := hP rn row pa ug u par' pa' hlt h0 hu hk hf
      obtain ⟨y, y1, y2, k1, k2⟩ := skip_ok hT he
      have yn := y2.1
      rw [e2, r1, Option.bind_some, Option.bind_some]
      dsimp only
      rw [k2, Option.bind_some, sR]
      have bC : f_X3_read_b18 bt (nI n) (nI (10 - Q)) (pa, ug, nI rn, nI p, -2000000000, nI rn) = if nI y < nI n then ((f_X3_accept bt (nI n) (nI y) 59).bind (fun q7 => if q7.1 = 0 then (some (Sum.inr (Sum.inr (Sum.inl (pa', upd ug rn u, nI (rn + 1), q7.2, (-2000000000 : Int32)))))) else (some (Sum.inl (pa', upd ug rn u, nI (rn + 1), q7.2, (-2000000000 : Int32), nI rn + 1))))) else some (Sum.inr (Sum.inl (pa', upd ug rn u, nI (rn + 1), nI y, (-2000000000 : Int32)))) := by
        unfold f_X3_read_b18
        dsimp only
        rw [if_neg G, L, e1, Option.bind_some]
        dsimp only
        rw [k1, Option.bind_some, if_pos rfl]
      rw [bC]
      by_cases c : y < n
      · have lt : nI y < nI n := by rw [Int32.lt_iff_toInt_lt, nI_toInt (by omega), nI_toInt (by omega)]; omega
        obtain ⟨z, hz, ez⟩ := (hT.2 y (by omega)).2
        have n1 : ¬ (if y < n then bt y else (-1 : Int32)) = -1 := by
          rw [if_pos c, ez]
          intro h
          have := congrArg Int32.toInt h
          rw [nI_toInt (by omega), show (-1 : Int32).toInt = -1 from by decide] at this
          omega
        obtain ⟨w, q, hw, q1, q2, a1, a2, a3⟩ := acc_ok hT yn 59 (by decide)
        rw [if_pos lt, show f_X3_accept bt (nI n) (nI y) 59 = some (w, nI q) from a1, Option.bind_some]
        have bR : f_X5_readsAll_b27 txt (nI n) md (row', par', nI y, nI (Q + (rn + 1)), 1, if y < n then bt y else -1) = if w = 0 then f_X5_readsAll_j57 row' txt par' (nI n) (nI q) (nI (Q + (rn + 1))) else ((f_X5_readsRequest txt (nI n) row' par' (nI q) (nI (Q + (rn + 1))) md).bind (fun q12 => if q12.1 = 0 then (f_X5_readsAll_j57 q12.2.1 txt q12.2.2.1 (nI n) q12.2.2.2.1 q12.2.2.2.2) else (f_X5_readsAll_j58 q12.2.1 txt q12.2.2.1 (nI n) q12.2.2.2.1 q12.2.2.2.2 1))) := by
          unfold f_X5_readsAll_b27
          dsimp only
          rw [if_neg (by decide), if_neg n1, show f_X5_sign txt (nI n) (nI y) 59 = some (w, nI q) from a2, Option.bind_some]
        rw [bR]
        rcases hw with rfl | rfl
        · rw [if_pos rfl, if_pos rfl]
          have k3 := (skip_st hT (a3 rfl)).2
          unfold f_X5_readsAll_j57 f_X5_readsAll_j58
          rw [k3, Option.bind_some]
          exact ⟨_, _, rfl, rfl, .inr ⟨q, _, _, _, 0, q2, .inr ⟨_, rfl⟩, rfl, rfl, _, _, _, h1⟩⟩
        · rw [if_neg (show ¬ (1 : Int32) = 0 by decide), if_neg (show ¬ (1 : Int32) = 0 by decide)]
          obtain ⟨o, qq, i1, i2, i3⟩ := ih (rn + 1) q (by omega) q2 pa' (upd ug rn u) row' par' m1 m2 h1
          refine ⟨o, qq, ?_, ?_, i3⟩
          · rw [show nI rn + 1 = nI (rn + 1) from nI_add rn 1]
            exact i1
          · rw [← i2]
            -- the flag goes over
            rcases req_ok hT (rn := rn + 1) (Q := Q) (by omega) q2 pa' (upd ug rn u) row' par' md with ⟨u2, pa2, par2, e', hu2, hlt2, -, f2, he2, hk2, hf2⟩ | ⟨pa2, ug2, rn2, x2, s2, par2, ask2, hx2, hs2, -, f2⟩
            · obtain ⟨row2, r2, -⟩ := hP (rn + 1) row' pa' (upd ug rn u) u2 par2 pa2 hlt2 h1 hu2 hk2 hf2
              obtain ⟨y', -, -, -, k4⟩ := skip_ok hT he2
              rw [f2, r2, Option.bind_some, Option.bind_some, Option.bind_some]
              dsimp only
              rw [if_neg (by decide)]
              unfold f_X5_readsAll_j58
              rw [k4]
              rfl
            · have k4 := (skip_st hT hs2).2
              rw [f2, Option.bind_some, Option.bind_some]
              dsimp only
              rw [if_pos rfl]
              unfold f_X5_readsAll_j57 f_X5_readsAll_j58
              rw [k4]
              rfl
      · have : y = n := by omega
        subst this
        have lt : ¬ nI y < nI y := Int32.lt_irrefl
        rw [if_neg lt]
        have bR : f_X5_readsAll_b27 txt (nI y) md (row', par', nI y, nI (Q + (rn + 1)), 1, if y < y then bt y else -1) = some (Sum.inr (row', par', nI y, nI (Q + (rn + 1)), 1)) := by
          unfold f_X5_readsAll_b27
          dsimp only
          rw [if_neg (by decide), if_neg c, if_pos rfl]
        rw [bR]
        exact ⟨_, _, rfl, rfl, .inl ⟨_, _, rn + 1, y, by omega, rfl, rfl, h1⟩⟩
    · obtain ⟨y, -, -, k1, -⟩ := skip_ok hT hx
      have k2 := (skip_st hT hs).2
      rw [e2, Option.bind_some]
      dsimp only
      rw [k2, Option.bind_some]
      refine ⟨Sum.inl (pa', ug', rn', nI y, nI s), _, ?_, rfl, .inr ⟨s, pa', ug', rn', nI y, hs.1, .inl rfl, rfl, rfl, rn, pa, ug, h0⟩⟩
      have a : f_X3_read_b18 bt (nI n) (nI (10 - Q)) (pa, ug, nI rn, nI p, -2000000000, nI rn) = some (Sum.inr (Sum.inl (pa', ug', rn', nI y, nI s))) := by
        unfold f_X3_read_b18
        dsimp only
        rw [if_neg G, L, e1, Option.bind_some]
        dsimp only
        rw [k1, Option.bind_some, if_neg (OKne (by have := hs.1; omega))]
      rw [a]; rfl


theorem OKne {s : Nat} (h : s < 2 ^ 31) : ¬ nI s = -2000000000 := by
  intro h'
  have := congrArg Int32.toInt h'
  rw [nI_toInt h, show (-2000000000 : Int32).toInt = -2000000000 from by decide] at this
  omega
def stepRow (md : Int32) (row : Nat → Int32) (u : Int32) (par : Nat → Int32) : Option (Nat → Int32) := if md = 0 then some row else f_X5_puts row (if u = 0 then row 68 else 0) (par 0) (par 1) (par 2)
theorem req_ok {bt txt : Nat → Int32} {n : Nat} (hT : TX bt txt n) {rn Q p : Nat} (hQ : Q + rn ≤ 10) (hp : p ≤ n) (pa ug row par : Nat → Int32) (md : Int32) :
    (∃ u pa' par' e, (u = 0 ∨ u = 1) ∧ Q + rn < 10 ∧ f_X3_readRequest bt (nI n) pa ug (nI rn) (nI p) (-2000000000) (nI (10 - Q)) = some (pa', upd ug rn u, nI (rn + 1), nI e, -2000000000) ∧ f_X5_readsRequest txt (nI n) row par (nI p) (nI (Q + rn)) md = (stepRow md row u par').bind (fun r => some (1, r, par', nI e, nI (Q + (rn + 1)))) ∧ e ≤ n ∧ (∀ k, k < 3 → pa' (3 * rn + k) = par' k) ∧ ∀ k, k < 3 * rn → pa' k = pa k) ∨
    (∃ pa' ug' rn' x s par' ask', x ≤ n ∧ St bt n s ∧ f_X3_readRequest bt (nI n) pa ug (nI rn) (nI p) (-2000000000) (nI (10 - Q)) = some (pa', ug', rn', nI x, nI s) ∧ f_X5_readsRequest txt (nI n) row par (nI p) (nI (Q + rn)) md = some (0, row, par', nI s, ask')) := by
  have hn := hT.1
  obtain ⟨q, h1, h2, k1, k2⟩ := skip_ok hT hp
  have hq := h2.1
  unfold f_X3_readRequest f_X5_readsRequest
  rw [k1, k2, Option.bind_some, Option.bind_some]
  dsimp only
  have t10 : (nI (Q + rn) = 10) ↔ Q + rn = 10 := ⟨fun h => nI_inj (b := 10) (by omega) (by omega) h, fun h => by rw [h]; rfl⟩
  by_cases c : Q + rn = 10
  · right
    have : ¬ nI rn < nI (10 - Q) := by rw [Int32.lt_iff_toInt_lt, nI_toInt (by omega), nI_toInt (by omega)]; omega
    rw [if_neg this, if_pos (t10.mpr c)]
    refine ⟨pa, ug, nI rn, q, q, par, nI (Q + rn), hq, h2, rfl, ite_self _⟩
  · have lt : nI rn < nI (10 - Q) := by rw [Int32.lt_iff_toInt_lt, nI_toInt (by omega), nI_toInt (by omega)]; omega
    obtain ⟨u, e0, hu, g1, g2, a1, a2, -⟩ := acc_ok hT hq 33 (by decide)
    have nar : vp_nar .boolean u = u := by rcases hu with rfl | rfl <;> rfl
    rw [if_pos lt, show f_X3_accept bt (nI n) (nI q) 33 = some (u, nI e0) from a1, show f_X5_sign txt (nI n) (nI q) 33 = some (u, nI e0) from a2, Option.bind_some, Option.bind_some, if_neg (fun h => c (t10.mp h))]
    dsimp only
    rw [nar]
    rcases parts_ok hT (rn := rn) (by omega) 3 0 e0 rfl g2 pa par 995 996 (fun k hk => by omega) with ⟨pa', par', e, x1, x2, x3, x4, x5, x6, x7⟩ | ⟨o, par', s, x1, x3, x2, x4, x5⟩
    · rw [show lp (f_X3_readRequest_b30 bt (nI n) (nI rn)) 1000 (pa, nI e0, -2000000000, 0) = _ from x1, show lp (f_X5_readsRequest_b31 txt (nI n)) 1000 (par, nI e0, 0) = _ from x2, Option.bind_some, Option.bind_some]
      have qn : q < n := by have := x4 (by decide); omega
      obtain ⟨z, hz, ez⟩ := (hT.2 q (by omega)).2
      have n1 : ¬ (if q < n then bt q else (-1 : Int32)) = -1 := by
        rw [if_pos qn, ez]
        intro h
        have := congrArg Int32.toInt h
        rw [nI_toInt (by omega), show (-1 : Int32).toInt = -1 from by decide] at this
        omega
      rw [if_neg n1]
      left
      refine ⟨u, pa', par', e, hu, by omega, ?_, ?_, x5, x6, x7⟩
      · show gd (ib (nI rn) 10) _ = _
        rw [gd_n (by omega), nI_clamp (by omega), show nI rn + 1 = nI (rn + 1) from nI_add rn 1]
      · show (if md = 0 then some ((1 : Int32), row, par', nI e, nI (Q + rn) + 1) else if u = 0 then gd (ib 68 708) (f_X5_readsRequest_j98 row par' (nI e) (nI (Q + rn) + 1) (row (68 : Int32).toNatClampNeg)) else f_X5_readsRequest_j98 row par' (nI e) (nI (Q + rn) + 1) 0) = _
        rw [show nI (Q + rn) + 1 = nI (Q + (rn + 1)) from nI_add (Q + rn) 1]
        unfold stepRow
        by_cases m : md = 0
        · rw [if_pos m, if_pos m]; rfl
        · rw [if_neg m, if_neg m]
          rcases hu with rfl | rfl
          · rw [if_pos rfl, if_pos rfl, gd_t (by rfl)]
            rfl
          · rw [if_neg (by decide), if_neg (by decide)]
            rfl
    · rw [show lp (f_X3_readRequest_b30 bt (nI n) (nI rn)) 1000 (pa, nI e0, -2000000000, 0) = _ from x1, show lp (f_X5_readsRequest_b31 txt (nI n)) 1000 (par, nI e0, 0) = _ from x2, Option.bind_some, Option.bind_some]
      right
      have hC : ∃ pa' ug' rn' x, x ≤ n ∧ Sum.elim (fun t4 => some (t4.1, ug, nI rn, t4.2.1, t4.2.1)) (fun t4 => gd (ib (nI rn) 10) (some (t4.1, upd ug (nI rn).toNatClampNeg u, nI rn + 1, t4.2.1, t4.2.2))) o = some (pa', ug', rn', nI x, nI s) := by
        rcases x3 with ⟨pa', rfl⟩ | ⟨pa', x, hx, rfl⟩
        · exact ⟨pa', ug, nI rn, s, x5.1, rfl⟩
        · refine ⟨pa', upd ug (nI rn).toNatClampNeg u, nI rn + 1, x, hx, ?_⟩
          show gd (ib (nI rn) 10) _ = _
          rw [gd_n (by omega)]
      obtain ⟨pa', ug', rn', x, hx, e1⟩ := hC
      by_cases qn : q < n
      · obtain ⟨z, hz, ez⟩ := (hT.2 q (by omega)).2
        have n1 : ¬ (if q < n then bt q else (-1 : Int32)) = -1 := by
          rw [if_pos qn, ez]
          intro h
          have := congrArg Int32.toInt h
          rw [nI_toInt (by omega), show (-1 : Int32).toInt = -1 from by decide] at this
          omega
        rw [if_neg n1]
        exact ⟨pa', ug', rn', x, s, par', nI (Q + rn), hx, x5, e1, rfl⟩
      · have : s = q := by have := x5.1; omega
        subst this
        rw [if_neg qn, if_pos rfl]
        exact ⟨pa', ug', rn', x, s, par, nI (Q + rn), hx, x5, e1, rfl⟩


theorem Val.pr1 {pr se : Nat → Int32} {tc sc rc so : Int32} (h : Val pr se tc sc rc so) {pr' : Nat → Int32} (hp : ∀ N i, tc = nI N → N ≤ 8 → i < N → PV pr i → PV pr' i) : Val pr' se tc sc rc so := by
  obtain ⟨N, S, Q, h1, h2, h3, h4, h5, h6, h7, h8⟩ := h
  exact ⟨N, S, Q, h1, h2, h3, h4, h5, h6, fun i hi => hp N i h1 h2 hi (h7 i hi), h8⟩
theorem Val.rc1 {pr se : Nat → Int32} {tc sc rc so : Int32} (h : Val pr se tc sc rc so) {Q : Nat} (hQ : Q ≤ 10) : Val pr se tc sc (nI Q) so := by
  obtain ⟨N, S, Q0, h1, h2, h3, h4, -, -, h7, h8⟩ := h
  exact ⟨N, S, Q, h1, h2, h3, h4, rfl, hQ, h7, h8⟩
theorem eq_setState {pr : Nat → Int32} {pu : Nat → Int32} {ta : Nat → Int32} {se : Nat → Int32} {qu : Nat → Int32} {im : Nat → Int32} {su : Nat → Int64} {tc : Int32} {sc : Int32} {rc : Int32} {cn : Int32} {so : Int32} {bt : Nat → Int32} {le : Int32} {hs : Nat → SV} {ol : Int32} {ct : Int32} {row : Nat → Int32} {tot : Nat → Int64} {txt : Nat → Int32} {sav : Int32} {len : Int32} (p0 : Int32) (p1 : Int32) (hI : Inv pr pu ta se qu im su tc sc rc cn so hs ol ct bt le row tot sav txt len) : ∃ q4 q5, f_X4_setState pu ta se qu im su tc sc rc cn so pr hs ol ct p0 p1 = some q4 ∧ f_X5_setState row tot sav p0 p1 = some q5 ∧ q4.1 = q5.1 ∧ Inv q4.2.1 pu ta se qu im su tc sc rc cn so q4.2.2.1 q4.2.2.2.1 q4.2.2.2.2 bt le q5.2.1 q5.2.2.1 q5.2.2.2 txt len := by
  obtain ⟨N, rfl, e2, hC⟩ := hI.cur
  have hN := hC.2.2.1
  obtain ⟨k, q, hk, hq, q1, q2, hH⟩ := rec_ok hI
  unfold f_X4_setState f_X5_setState
  rw [isThr_eq, in_eq, e2]
  rcases isThr N hC.2.2.1 p0 with h | ⟨h, i, hi, rfl⟩
  · rw [h]; exact ⟨_, _, rfl, rfl, rfl, hI⟩
  · rw [h]
    simp only [n10, ↓reduceIte, Option.bind_some]
    rcases wi0 p1 2 (by omega) with h | ⟨h, z, hz, rfl⟩
    · rw [show (2 : Int32) = nI 2 from rfl, h]; exact ⟨_, _, rfl, rfl, rfl, hI⟩
    · rw [show f_X4_isWithin (nI z) 0 2 = some 1 from h]
      simp only [n10, ↓reduceIte, Option.bind_some]
      have hp := prop_ok pr i 6 (by omega)
      have ho := of_ok q.1 i 6 (by omega)
      have e6 : nI i * 7 + (6 : Int32) = nI (7 * i + 6) := ix7 i 6
      have e7 : (1 + 7 * nI i) + (6 : Int32) = nI (1 + 7 * i + 6) := ix1 i 6
      unfold f_X2_setProperty
      rw [hk, hq]
      simp only [Option.bind_some]
      rw [show f_X2_property pr (nI i) 6 = _ from hp, show f_X5_of q.1 (nI i) 6 = _ from ho]
      simp only [Option.bind_some]
      rw [e6, e7, gd_n (by omega), gd_n (by omega), nI_clamp (by omega), nI_clamp (by omega)]
      refine ⟨_, _, rfl, rfl, ?_, ?_, ?_, ?_, hI.2.2.2⟩
      · show pr (7 * i + 6) = q.1 (1 + 7 * i + 6)
        rw [q1 _ (by omega), Nat.add_assoc, b_pr hI.1 (by omega)]
      · show BR (upd pr (7 * i + 6) (nI z)) _ _ _ _ _ _ _ _ _ _ _ (upd q.1 (1 + 7 * i + 6) (nI z)) _ 0
        rw [show 1 + 7 * i + 6 = 1 + (7 * i + 6) by omega]
        exact (hI.1.same q1 q2).u_pr (7 * i + 6) (by omega) _
      · refine hI.2.1.pr1 (fun M j _ hM hj hp => ?_)
        show PV (upd pr (7 * i + 6) (nI z)) j
        unfold PV at hp ⊢
        rw [uu (by omega), uu (by omega), uu (by omega), uu (by omega), uu (by omega), uu (by omega)]
        refine ⟨hp.1, hp.2.1, hp.2.2.1, hp.2.2.2.1, hp.2.2.2.2.1, hp.2.2.2.2.2.1, ?_⟩
        by_cases c : j = i
        · subst c; exact ⟨z, by omega, us⟩
        · rw [uu (by omega)]; exact hp.2.2.2.2.2.2
      · exact hH.to (fun m hm => uu (by omega)) (fun _ _ => rfl)
theorem eq_refuel {pr : Nat → Int32} {pu : Nat → Int32} {ta : Nat → Int32} {se : Nat → Int32} {qu : Nat → Int32} {im : Nat → Int32} {su : Nat → Int64} {tc : Int32} {sc : Int32} {rc : Int32} {cn : Int32} {so : Int32} {bt : Nat → Int32} {le : Int32} {hs : Nat → SV} {ol : Int32} {ct : Int32} {row : Nat → Int32} {tot : Nat → Int64} {txt : Nat → Int32} {sav : Int32} {len : Int32} (p0 : Int32) (p1 : Int32) (hI : Inv pr pu ta se qu im su tc sc rc cn so hs ol ct bt le row tot sav txt len) : ∃ q4 q5, f_X4_refuel pr pu se qu im su tc sc rc cn so ta hs ol ct p0 p1 = some q4 ∧ f_X5_refuel row tot sav p0 p1 = some q5 ∧ q4.1 = q5.1 ∧ Inv pr pu q4.2.1 se qu im su tc sc rc cn so q4.2.2.1 q4.2.2.2.1 q4.2.2.2.2 bt le q5.2.1 q5.2.2.1 q5.2.2.2 txt len := by
  obtain ⟨k, q, hk, hq, q1, q2, hH⟩ := rec_ok hI
  unfold f_X4_refuel f_X5_refuel
  rw [isTank_eq, in_eq]
  rcases isTank p0 with h | ⟨h, i, hi, rfl⟩
  · rw [h]; exact ⟨_, _, rfl, rfl, rfl, hI⟩
  · rw [h]
    simp only [n10, ↓reduceIte, Option.bind_some]
    rcases wi p1 0 100000 with ⟨h, -⟩ | ⟨h, -⟩
    · rw [h]; exact ⟨_, _, rfl, rfl, rfl, hI⟩
    · rw [h]
      simp only [n10, ↓reduceIte, Option.bind_some]
      rw [hk, hq]
      simp only [Option.bind_some]
      rw [ix57, gd_n hi, gd_n hi, gd_n (by omega), gd_n (by omega), nI_clamp (by omega), nI_clamp (by omega)]
      refine ⟨_, _, rfl, rfl, ?_, ?_, hI.2.1, ?_, hI.2.2.2⟩
      · show ta i = q.1 (57 + i)
        rw [q1 _ (by omega), b_ta hI.1 hi]
      · exact (hI.1.same q1 q2).u_ta i hi _
      · exact hH.to (fun m hm => uu (by omega)) (fun _ _ => rfl)
theorem areAt (a b c n : Int32) (m : Int32) (hm : -n = m) : f_X4_areAtMost a b c n = (f_X4_isWithin a m n).bind (fun q1 => if q1 = 0 then (some 0) else ((f_X4_isWithin b m n).bind (fun q3 => if q3 = 0 then (some 0) else ((f_X4_isWithin c m n).bind (fun q5 => if q5 = 0 then (some 0) else (some 1)))))) := by
  unfold f_X4_areAtMost f_X4_isAtMost
  rw [hm]
  rcases wi a m n with ⟨h1, -⟩ | ⟨h1, -⟩ <;> rcases wi b m n with ⟨h2, -⟩ | ⟨h2, -⟩ <;> rcases wi c m n with ⟨h3, -⟩ | ⟨h3, -⟩ <;> rw [h1, h2, h3] <;> rfl
theorem isReq_eq (a b c : Int32) : f_X4_areAtMost a b c 2000 = f_X5_isRequest a b c := areAt a b c 2000 (-2000) (by decide)
theorem isReq (a b c : Int32) : f_X5_isRequest a b c = some 0 ∨ f_X5_isRequest a b c = some 1 := by
  unfold f_X5_isRequest
  rw [in_eq, in_eq, in_eq]
  rcases wi a (-2000) 2000 with ⟨h1, -⟩ | ⟨h1, -⟩ <;> rcases wi b (-2000) 2000 with ⟨h2, -⟩ | ⟨h2, -⟩ <;> rcases wi c (-2000) 2000 with ⟨h3, -⟩ | ⟨h3, -⟩ <;> rw [h1, h2, h3] <;> first | exact Or.inl rfl | exact Or.inr rfl
theorem put_ok {pr pu ta se qu im : Nat → Int32} {su : Nat → Int64} {tc sc rc cn so : Int32} {hs : Nat → SV} {ol ct : Int32} {bt : Nat → Int32} {le : Int32} {row : Nat → Int32} {tot : Nat → Int64} {sav : Int32} {txt : Nat → Int32} {len : Int32} (hI : Inv pr pu ta se qu im su tc sc rc cn so hs ol ct bt le row tot sav txt len) (a b c z : Int32) :
    ∃ q4 q5, f_X4_putRequest pr pu ta se im su tc sc cn so qu rc hs ol ct a b c z = some q4 ∧ f_X5_asks row tot sav z a b c = some q5 ∧ q4.1 = q5.1 ∧ Inv pr pu ta se q4.2.1 im su tc sc q4.2.2.1 cn so q4.2.2.2.1 q4.2.2.2.2.1 q4.2.2.2.2.2 bt le q5.2.1 q5.2.2.1 q5.2.2.2 txt len := by
  obtain ⟨k, q, hk, hq, q1, q2, hH⟩ := rec_ok hI
  obtain ⟨hB, hV, hHi, hT⟩ := id hI
  obtain ⟨N, S, Q, -, -, -, -, rfl, hQ, -, -⟩ := id hV
  have eR := b_rc hB
  unfold f_X4_putRequest f_X5_asks
  rw [isReq_eq]
  rcases isReq a b c with h | h
  · rw [h]; exact ⟨_, _, rfl, rfl, rfl, hI⟩
  · rw [h]
    simp only [n10, ↓reduceIte, Option.bind_some, g68, c68]
    rw [eR]
    by_cases h10 : Q = 10
    · subst h10
      rw [if_neg (by decide), if_pos (by decide)]
      exact ⟨_, _, rfl, rfl, rfl, hI⟩
    · have hlt : nI Q < 10 := nI_lt (b := 10) (by omega) (by omega)
      have hne : ¬ nI Q = 10 := fun h => h10 (nI_inj (by omega) (by omega) (h : nI Q = nI 10))
      rw [if_pos hlt, if_neg hne, hk, hq]
      simp only [Option.bind_some]
      obtain ⟨w, row', h1, h2, h3, h4, h5⟩ := ins_ok (qu := qu) (row := q.1) (Q := Q) (by omega) (fun m hm => (q1 _ (by omega)).trans (b_qu hB hm)) ((q1 _ (by omega)).trans eR) a b c z
      rw [h1]
      have e8 : (if z = 0 then f_X5_asks_j48 q.1 q.2.1 q.2.2 a b c (q.1 68) else f_X5_asks_j48 q.1 q.2.1 q.2.2 a b c 0) = some (nI (Q + 1), row', q.2.1, q.2.2) := by
        unfold f_X5_asks_j48
        by_cases hz : z = 0
        · rw [if_pos hz] at h2 ⊢
          rw [q1 _ (by omega), eR, h2, Option.bind_some, g68, c68, h4]
        · rw [if_neg hz] at h2 ⊢
          rw [h2, Option.bind_some, g68, c68, h4]
      rw [e8]
      refine ⟨_, _, rfl, rfl, rfl, ?_, ?_, ?_, hT⟩
      · exact (hB.same q1 q2).n_qu h3 h4 h5
      · exact hV.rc1 (by omega)
      · exact hH.to (fun m hm => h5 _ (by omega) (by omega)) (fun _ _ => rfl)
theorem eq_request {pr : Nat → Int32} {pu : Nat → Int32} {ta : Nat → Int32} {se : Nat → Int32} {qu : Nat → Int32} {im : Nat → Int32} {su : Nat → Int64} {tc : Int32} {sc : Int32} {rc : Int32} {cn : Int32} {so : Int32} {bt : Nat → Int32} {le : Int32} {hs : Nat → SV} {ol : Int32} {ct : Int32} {row : Nat → Int32} {tot : Nat → Int64} {txt : Nat → Int32} {sav : Int32} {len : Int32} (p0 : Int32) (p1 : Int32) (p2 : Int32) (hI : Inv pr pu ta se qu im su tc sc rc cn so hs ol ct bt le row tot sav txt len) : ∃ q4 q5, f_X4_request pr pu ta se im su tc sc cn so qu rc hs ol ct p0 p1 p2 = some q4 ∧ f_X5_request row tot sav p0 p1 p2 = some q5 ∧ q4.1 = q5.1 ∧ Inv pr pu ta se q4.2.1 im su tc sc q4.2.2.1 cn so q4.2.2.2.1 q4.2.2.2.2.1 q4.2.2.2.2.2 bt le q5.2.1 q5.2.2.1 q5.2.2.2 txt len := by
  obtain ⟨q4, q5, h1, h2, h3, h4⟩ := put_ok hI p0 p1 p2 0
  unfold f_X4_request f_X5_request
  rw [h1, h2]
  exact ⟨_, _, rfl, rfl, h3, h4⟩
theorem eq_urge {pr : Nat → Int32} {pu : Nat → Int32} {ta : Nat → Int32} {se : Nat → Int32} {qu : Nat → Int32} {im : Nat → Int32} {su : Nat → Int64} {tc : Int32} {sc : Int32} {rc : Int32} {cn : Int32} {so : Int32} {bt : Nat → Int32} {le : Int32} {hs : Nat → SV} {ol : Int32} {ct : Int32} {row : Nat → Int32} {tot : Nat → Int64} {txt : Nat → Int32} {sav : Int32} {len : Int32} (p0 : Int32) (p1 : Int32) (p2 : Int32) (hI : Inv pr pu ta se qu im su tc sc rc cn so hs ol ct bt le row tot sav txt len) : ∃ q4 q5, f_X4_urge pr pu ta se im su tc sc cn so qu rc hs ol ct p0 p1 p2 = some q4 ∧ f_X5_urge row tot sav p0 p1 p2 = some q5 ∧ q4.1 = q5.1 ∧ Inv pr pu ta se q4.2.1 im su tc sc q4.2.2.1 cn so q4.2.2.2.1 q4.2.2.2.2.1 q4.2.2.2.2.2 bt le q5.2.1 q5.2.2.1 q5.2.2.2 txt len := by
  obtain ⟨q4, q5, h1, h2, h3, h4⟩ := put_ok hI p0 p1 p2 1
  unfold f_X4_urge f_X5_urge
  rw [h1, h2]
  exact ⟨_, _, rfl, rfl, h3, h4⟩
theorem eq_cancel {pr : Nat → Int32} {pu : Nat → Int32} {ta : Nat → Int32} {se : Nat → Int32} {qu : Nat → Int32} {im : Nat → Int32} {su : Nat → Int64} {tc : Int32} {sc : Int32} {rc : Int32} {cn : Int32} {so : Int32} {bt : Nat → Int32} {le : Int32} {hs : Nat → SV} {ol : Int32} {ct : Int32} {row : Nat → Int32} {tot : Nat → Int64} {txt : Nat → Int32} {sav : Int32} {len : Int32} (p0 : Int32) (hI : Inv pr pu ta se qu im su tc sc rc cn so hs ol ct bt le row tot sav txt len) : ∃ q4 q5, f_X4_cancel pr pu ta se im su tc sc cn so qu rc hs ol ct p0 = some q4 ∧ f_X5_cancel row tot sav p0 = some q5 ∧ q4.1 = q5.1 ∧ Inv pr pu ta se q4.2.1 im su tc sc q4.2.2.1 cn so q4.2.2.2.1 q4.2.2.2.2.1 q4.2.2.2.2.2 bt le q5.2.1 q5.2.2.1 q5.2.2.2 txt len := by
  obtain ⟨k, q, hk, hq, q1, q2, hH⟩ := rec_ok hI
  obtain ⟨hB, hV, hHi, hT⟩ := id hI
  obtain ⟨N, S, Q, -, -, -, -, rfl, hQ, -, -⟩ := id hV
  have eR := b_rc hB
  unfold f_X4_cancel f_X5_cancel
  rw [isPlace_eq, eR]
  rcases isPlace Q hQ p0 with h | ⟨h, i, hi, rfl⟩
  · rw [h]; exact ⟨_, _, rfl, rfl, rfl, hI⟩
  · rw [h]
    simp only [n10, ↓reduceIte, Option.bind_some]
    rw [hk, hq]
    simp only [Option.bind_some]
    obtain ⟨w, row', h1, h2, h3, h4, h5⟩ := rem_ok (qu := qu) (row := q.1) (Q := Q) hQ hi (fun m hm => (q1 _ (by omega)).trans (b_qu hB hm)) ((q1 _ (by omega)).trans eR)
    rw [h1, h2]
    simp only [Option.bind_some, g68, c68]
    rw [h4]
    refine ⟨_, _, rfl, rfl, rfl, ?_, ?_, ?_, hT⟩
    · exact (hB.same q1 q2).n_qu h3 h4 h5
    · exact hV.rc1 (by omega)
    · exact hH.to (fun m hm => h5 _ (by omega) (by omega)) (fun _ _ => rfl)
theorem eq_undo {pr : Nat → Int32} {pu : Nat → Int32} {ta : Nat → Int32} {se : Nat → Int32} {qu : Nat → Int32} {im : Nat → Int32} {su : Nat → Int64} {tc : Int32} {sc : Int32} {rc : Int32} {cn : Int32} {so : Int32} {bt : Nat → Int32} {le : Int32} {hs : Nat → SV} {ol : Int32} {ct : Int32} {row : Nat → Int32} {tot : Nat → Int64} {txt : Nat → Int32} {sav : Int32} {len : Int32} (hI : Inv pr pu ta se qu im su tc sc rc cn so hs ol ct bt le row tot sav txt len) : ∃ q4 q5, f_X4_undo hs ol pr pu ta se qu im su tc sc rc cn so ct = some q4 ∧ f_X5_undo row tot sav = some q5 ∧ q4.1 = q5.1 ∧ Inv q4.2.1 q4.2.2.1 q4.2.2.2.1 q4.2.2.2.2.1 q4.2.2.2.2.2.1 q4.2.2.2.2.2.2.1 q4.2.2.2.2.2.2.2.1 q4.2.2.2.2.2.2.2.2.1 q4.2.2.2.2.2.2.2.2.2.1 q4.2.2.2.2.2.2.2.2.2.2.1 q4.2.2.2.2.2.2.2.2.2.2.2.1 q4.2.2.2.2.2.2.2.2.2.2.2.2.1 hs ol q4.2.2.2.2.2.2.2.2.2.2.2.2.2 bt le q5.2.1 q5.2.2.1 q5.2.2.2 txt len := by
  obtain ⟨hB, hV, ⟨o, c, rfl, ho, rfl, hc, rfl, hH⟩, hT⟩ := id hI
  unfold f_X4_undo f_X5_undo
  rcases Nat.eq_zero_or_pos c with rfl | hp
  · rw [if_pos (by decide), if_pos (by decide)]
    exact ⟨_, _, rfl, rfl, rfl, hI⟩
  · have hne : ¬ nI c = 0 := nI_ne0 hp (by omega)
    obtain ⟨d, rfl⟩ : ∃ d, c = d + 1 := ⟨c - 1, by omega⟩
    have hm : (o + d) % 5 < 5 := Nat.mod_lt _ (by omega)
    obtain ⟨q, hq, hq1, hq2⟩ := copies_ok row tot (d + 1) 0 (by omega) (by omega) (by omega)
    obtain ⟨u, hu, huB, huV⟩ := copy_ok ((hs ((o + d) % 5)).1) ((hs ((o + d) % 5)).2.1) ((hs ((o + d) % 5)).2.2.1) ((hs ((o + d) % 5)).2.2.2.1) ((hs ((o + d) % 5)).2.2.2.2.1) ((hs ((o + d) % 5)).2.2.2.2.2.1) ((hs ((o + d) % 5)).2.2.2.2.2.2.1) ((hs ((o + d) % 5)).2.2.2.2.2.2.2.1) ((hs ((o + d) % 5)).2.2.2.2.2.2.2.2.1) ((hs ((o + d) % 5)).2.2.2.2.2.2.2.2.2.1) ((hs ((o + d) % 5)).2.2.2.2.2.2.2.2.2.2.1) ((hs ((o + d) % 5)).2.2.2.2.2.2.2.2.2.2.2) pr pu ta se qu im su tc sc rc cn so
    rw [if_neg hne, if_neg hne, show (0 : Int32) = nI 0 from rfl, hq, Option.bind_some]
    unfold f_X0_restore
    rw [if_neg (show ¬ nI (d + 1) ≤ 0 from nI_nle (by omega) (by omega)), show nI (d + 1) - 1 = nI d from nI_pred d, rem5 o d (by omega), gd_n hm, nI_clamp (by omega), hu]
    simp only [Option.bind_some]
    refine ⟨_, _, rfl, rfl, rfl, ?_, ?_, ?_, hT⟩
    · obtain ⟨a, b⟩ := hH d (by omega)
      exact (huB _ _ _ a).to (b' := 0) (fun k hk => by rw [hq1, if_pos (by omega)]; exact congrArg row (by omega)) (fun k hk => by show q.2 _ = _; rw [hq2, if_pos (by omega)]; exact congrArg tot (by omega))
    · obtain ⟨a, b⟩ := hH d (by omega)
      exact huV b
    · refine ⟨o, d, rfl, ho, rfl, by omega, rfl, fun j hj => ?_⟩
      obtain ⟨a, b⟩ := hH j (by omega)
      exact ⟨a.to (fun k hk => by rw [hq1, if_neg (by omega)]) (fun k hk => by show q.2 _ = _; rw [hq2, if_neg (by omega)]), b⟩


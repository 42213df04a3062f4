/-! a selection is sound -/
def Snd9 (x : Option (Int32 × (Nat → Nat → Int32) × (Nat → Int32) × (Nat → Int64) × Int64 × Int64 × Int32 × Int32 × Int32)) : Prop := ∃ q, x = some q ∧ q.1 = 1 ∧ zL 8 q.2.2.2.1
theorem sel_loop {pr ta se : Nat → Int32} {N S : Nat} {p1 p2 p3 : Int32} {c : CS5} (hC : Cu pr N) (hSh : Shr pr ta N c.1 c.2.1) (hz : zL 8 c.1) (hf : FindAll pr ta se N S p1 p2 p3 c) (ht : f_X4_isTarget p1 p2 p3 = some 1) (hfo : c.2.2.2.2 = 1) (hb : ∀ i, i < N → (c.2.2.2.1.toBitVec.getLsbD i = true ↔ 0 < (c.1 i).toInt))
    (un : Nat → Nat → Int32) (tp : Nat → Int32) (sh : Nat → Int64) (de co : Int64) (ma ru fo : Int32) (hs : zL 8 sh) :
    ∃ q, lp (f_L_isSelectionSound_b162 pr ta se (nI N) (nI S) p1 p2 p3 c.2.2.2.1) 1000 (un, tp, sh, de, co, ma, ru, fo, 0) = some q ∧ zL 8 q.2.2.1 := by
  have hN := hC.1
  refine lp_run (b := f_L_isSelectionSound_b162 pr ta se (nI N) (nI S) p1 p2 p3 c.2.2.2.1) (fun i s => s.2.2.2.2.2.2.2.2 = nI i ∧ zL 8 s.2.2.1) N (fun r => zL 8 r.2.2.1) ?_ 1000 0 _ (Nat.zero_le _) (by omega) ⟨rfl, hs⟩
  rintro i ⟨un, tp, sh, de, co, ma, ru, fo, y⟩ hi ⟨hy, hzs⟩
  replace hy : y = nI i := hy
  replace hzs : zL 8 sh := hzs
  subst hy
  unfold f_L_isSelectionSound_b162
  dsimp only
  rw [show f_X4_thrusters (nI N) = some (nI N) from rfl, Option.bind_some]
  by_cases hlt : i < N
  · left
    refine ⟨hlt, ?_⟩
    obtain ⟨un', tp', ru', e⟩ := pulse_g hC hlt hSh hf ht un tp sh de co ma ru fo hzs
    rw [if_neg (show ¬ c.2.2.2.2 = 0 from fun h => absurd (hfo.symm.trans h) (by decide))] at e
    obtain ⟨-, w, m, ew, hw, em, hm, hw1, hw2⟩ := pul_of (ta := ta) hC hlt hSh
    have hm5 : f_X4_thruster pr ta (nI N) (nI i) 5 = some (nI m) := by rw [show (5 : Int32) = nI 5 from rfl, thruster_p hC hlt 5 (by omega), em]
    rw [if_neg (nI_ge hlt (by omega)), e, Option.bind_some]
    dsimp only
    rw [bit_at _ i (by omega), ew]
    have go : f_L_isSelectionSound_j227 un' tp' c.1 c.2.1 c.2.2.1 c.2.2.2.1 ru' c.2.2.2.2 pr ta (nI N) (nI i) (nI w) = some (Sum.inl (un', tp', c.1, c.2.1, c.2.2.1, c.2.2.2.1, ru', c.2.2.2.2, nI (i + 1))) := by
      unfold f_L_isSelectionSound_j227
      by_cases w0 : w = 0
      · rw [if_pos (show nI w = 0 from by rw [w0]; rfl), nI_1]
      · rw [if_neg (show ¬ nI w = 0 from fun h => w0 (nI_inj (b := 0) (by omega) (by omega) h)), hm5, Option.bind_some, if_neg (show ¬ nI w < nI m from fun h => by rw [nI_ltI (by omega) (by omega)] at h; have := (hw1 w0).1; omega), if_pos (show nI w ≤ 20 from nI_le (b := 20) hw (by omega)), nI_1]
    by_cases hbit : c.2.2.2.1.toBitVec.getLsbD i = true
    · rw [if_pos hbit, if_pos rfl]
      have hu := (hSh.2 i (by omega)).2.2 ((hb i hlt).mp hbit)
      refine ⟨(un', tp', c.1, c.2.1, c.2.2.1, c.2.2.2.1, ru', c.2.2.2.2, nI (i + 1)), ?_, rfl, hz⟩
      unfold f_L_isSelectionSound_j198
      rw [if_neg (by decide), thruster_u hC hlt, Option.bind_some, if_pos hu.2]
      unfold f_L_isSelectionSound_j217
      rw [if_neg (by decide)]
      exact go
    · rw [if_neg hbit, if_neg (by decide)]
      have w0 : w = 0 := Classical.byContradiction fun h => hbit ((hb i hlt).mpr (hw1 h).2)
      refine ⟨(un', tp', c.1, c.2.1, c.2.2.1, c.2.2.2.1, ru', c.2.2.2.2, nI (i + 1)), ?_, rfl, hz⟩
      unfold f_L_isSelectionSound_j198
      rw [if_pos rfl]
      unfold f_L_isSelectionSound_j217
      rw [if_pos rfl, if_pos (show nI w = 0 from by rw [w0]; rfl)]
      exact go
  · right
    have : i = N := by omega
    subst this
    rw [if_pos (Int32.le_refl _)]
    exact ⟨_, rfl, hzs⟩
theorem sel_sound {pr ta se : Nat → Int32} {N S : Nat} {p1 p2 p3 : Int32} (hC : Cu pr N) (hS : S ≤ 8) (ht : f_X4_isTarget p1 p2 p3 = some 1)
    (un : Nat → Nat → Int32) (tp : Nat → Int32) (sh : Nat → Int64) (de co : Int64) (ma ru fo : Int32) (hs : zL 8 sh) :
    Snd9 (f_L_isSelectionSound pr ta se (nI N) (nI S) un tp sh de co ma ru fo p1 p2 p3) := by
  have hN := hC.1
  obtain ⟨c, hc, hf⟩ := find_of (ta := ta) (se := se) hC hS p1 p2 p3
  obtain ⟨g1, g2, g3, g4, g5⟩ := hc.z
  have hSh : Shr pr ta N c.1 c.2.1 := ⟨g2, g5⟩
  have hth : f_X4_thrusters (nI N) = some (nI N) := rfl
  unfold f_L_isSelectionSound
  obtain ⟨un1, tp1, ru1, e1⟩ := select_g hf ht un tp sh de co ma ru fo hs
  rw [e1, Option.bind_some]
  dsimp only
  rcases g3 with f0 | f1
  · -- there is none
    have hnz : ¬ (p1 = 0 ∧ p2 = 0 ∧ p3 = 0) := by
      rcases hc with ⟨-, -, -, rfl⟩ | ⟨h, -⟩
      · exact absurd f0 (by show ¬ (1 : Int32) = 0; decide)
      · exact h
    have j52 : ∀ un tp ru, Snd9 (f_L_isSelectionSound_j52 un tp c.1 c.2.1 c.2.2.1 c.2.2.2.1 ru c.2.2.2.2 p1 p2 p3) := by
      intro un tp ru
      have h1 : f_L_isSelectionSound_j52 un tp c.1 c.2.1 c.2.2.1 c.2.2.2.1 ru c.2.2.2.2 p1 p2 p3 = some (1, un, tp, c.1, c.2.1, c.2.2.1, c.2.2.2.1, ru, c.2.2.2.2) := by
        unfold f_L_isSelectionSound_j52
        by_cases c0 : p1 = 0
        · rw [if_pos c0]
          by_cases c1 : p2 = 0
          · rw [if_pos c1, if_neg (fun c2 => hnz ⟨c0, c1, c2⟩)]
          · rw [if_neg c1]
        · rw [if_neg c0]
      exact ⟨_, h1, rfl, g1⟩
    have hsel : (if c.2.2.2.2 = 0 then (-2000000000 : Int32) else c.2.2.2.1) = -2000000000 := if_pos f0
    have hpr : ∀ un tp ru, ∃ un' tp' ru', f_X4_price pr ta se (nI N) (nI S) un tp c.1 c.2.1 c.2.2.1 c.2.2.2.1 ru c.2.2.2.2 p1 p2 p3 = some (-2000000000, un', tp', c.1, c.2.1, c.2.2.1, c.2.2.2.1, ru', c.2.2.2.2) := by
      intro un tp ru
      obtain ⟨un', tp', ru', e⟩ := hf un tp c.1 c.2.1 c.2.2.1 c.2.2.2.1 ru c.2.2.2.2 g1
      refine ⟨un', tp', ru', ?_⟩
      unfold f_X4_price
      rw [ht, Option.bind_some, if_neg (by decide), e, Option.bind_some]
      dsimp only
      rw [if_pos f0]
    obtain ⟨un2, tp2, ru2, e2⟩ := hpr un1 tp1 ru1
    rw [e2, Option.bind_some]
    dsimp only
    rw [if_pos hsel, if_pos rfl, hth, Option.bind_some]
    by_cases n0 : N = 0
    · rw [if_pos (show nI N = 0 from by rw [n0]; rfl)]
      exact j52 _ _ _
    · rw [if_neg (show ¬ nI N = 0 from fun h => n0 (nI_inj (b := 0) (by omega) (by omega) h))]
      obtain ⟨un3, tp3, ru3, e3⟩ := pulse_g (i := 0) hC (by omega) hSh hf ht un2 tp2 c.1 c.2.1 c.2.2.1 c.2.2.2.1 ru2 c.2.2.2.2 g1
      rw [if_pos f0] at e3
      rw [show (0 : Int32) = nI 0 from rfl, e3, Option.bind_some]
      dsimp only
      rw [if_pos rfl]
      exact j52 _ _ _
  · -- there is one
    have hne0 : ¬ c.2.2.2.2 = 0 := fun h => absurd (f1.symm.trans h) (by decide)
    have hfacts : (∃ v, f_X1_thousandths c.2.1 c.2.2.1 = some (nI v) ∧ v ≤ 1200000 ∧ (c.2.2.2.1 = 0 → v = 0)) ∧ (∃ q, f_L_bits c.2.2.2.1 = some q ∧ ¬ 3 < q) ∧ (c.2.2.2.1 >>> (nI N &&& 31)) = 0 ∧ f_X4_isWithin c.2.2.2.1 0 255 = some 1 ∧ ¬ c.2.2.2.1 = -2000000000 ∧ (c.2.2.2.1 = 0 ↔ (p1 = 0 ∧ p2 = 0 ∧ p3 = 0)) ∧ (¬ c.2.2.2.1 = 0 → f_X4_isForbidden pr ta se (nI N) (nI S) c.2.2.2.1 = some 0) ∧ (∀ i, i < N → (c.2.2.2.1.toBitVec.getLsbD i = true ↔ 0 < (c.1 i).toInt)) := by
      rcases hc with ⟨a1, a2, a3, rfl⟩ | ⟨h, h1, h2, h3⟩
      · refine ⟨⟨0, by decide, by omega, fun _ => rfl⟩, ⟨0, bits_0, by decide⟩, ?_, by decide, by decide, ⟨fun _ => ⟨a1, a2, a3⟩, fun _ => rfl⟩, fun h => absurd rfl h, fun i hi => ?_⟩
        · show ((0 : Int32) >>> (nI N &&& 31)) = 0
          have : ∀ n, n < 9 → ((0 : Int32) >>> (nI n &&& 31)) = 0 := by decide +kernel
          exact this N (by omega)
        · show (0 : Int32).toBitVec.getLsbD i = true ↔ 0 < (0 : Int64).toInt
          rw [bit_0]
          exact ⟨fun e => (by cases e), fun e => absurd e (by decide)⟩
      · rcases h3 with ⟨a, -⟩ | ⟨-, b, hco, hmk, hfb, hz0⟩
        · exact absurd (f1.symm.trans a) (by decide)
        · obtain ⟨m1, m2, m3, m4⟩ := mk_of hN hmk
          have hma : ¬ c.2.2.2.1 = 0 := fun e => by
            have hz := hz0 e
            have w : ∀ x : Int32, x.toInt64 = 0 → x = 0 := fun x hx => by
              have := congrArg Int64.toInt hx
              rw [Int32.toInt_toInt64] at this
              exact Int32.toInt_inj.mp (this.trans (by decide))
            exact h ⟨w _ (hz 0 (by decide)), w _ (hz 1 (by decide)), w _ (hz 2 (by decide))⟩
          obtain ⟨v, v1, v2⟩ := thou_of h2 hco
          exact ⟨⟨v, v1, v2, fun e => absurd e hma⟩, m1, m2, m3, m4, ⟨fun e => absurd e hma, fun e => absurd e h⟩, fun _ => by rw [isForb_of hC hS m3]; exact hfb, fun i hi => (b i (by omega)).2.2.1⟩
    obtain ⟨⟨v, v1, v2, v0⟩, ⟨q, hq1, hq2⟩, hshift, hwith, hNone, hzero, hforb, hbits⟩ := hfacts
    obtain ⟨un2, tp2, ru2, e2⟩ := price_g hf ht v1 un1 tp1 c.1 c.2.1 c.2.2.1 c.2.2.2.1 ru1 c.2.2.2.2 g1
    rw [e2, Option.bind_some]
    dsimp only
    rw [if_neg hne0, if_neg hne0, if_neg hNone, hq1, Option.bind_some, if_neg hq2, hth, Option.bind_some, if_pos hshift, if_neg (nI_pos (by omega)), if_neg (show ¬ (1200000 : Int32) < nI v from fun h => by rw [show (1200000 : Int32) = nI 1200000 from rfl, nI_ltI (by omega) (by omega)] at h; omega)]
    have j159 : Snd9 (f_L_isSelectionSound_j159 un2 tp2 c.1 c.2.1 c.2.2.1 c.2.2.2.1 ru2 c.2.2.2.2 pr ta se (nI N) (nI S) p1 p2 p3 c.2.2.2.1) := by
      obtain ⟨q, hq, hz⟩ := sel_loop hC hSh g1 hf ht f1 hbits un2 tp2 c.1 c.2.1 c.2.2.1 c.2.2.2.1 ru2 c.2.2.2.2 g1
      unfold f_L_isSelectionSound_j159
      rw [hq, Option.bind_some]
      exact ⟨_, rfl, rfl, hz⟩
    have j147 : Snd9 (f_L_isSelectionSound_j147 un2 tp2 c.1 c.2.1 c.2.2.1 c.2.2.2.1 ru2 c.2.2.2.2 pr ta se (nI N) (nI S) p1 p2 p3 c.2.2.2.1 (nI v)) := by
      unfold f_L_isSelectionSound_j147
      by_cases m0 : c.2.2.2.1 = 0
      · rw [if_pos m0, if_pos (show nI v = 0 from by rw [v0 m0]; rfl)]
        exact j159
      · rw [if_neg m0]; exact j159
    have j128 : ∀ t, Snd9 (f_L_isSelectionSound_j128 un2 tp2 c.1 c.2.1 c.2.2.1 c.2.2.2.1 ru2 c.2.2.2.2 pr ta se (nI N) (nI S) p1 p2 p3 c.2.2.2.1 (nI v) t t) := by
      intro t
      unfold f_L_isSelectionSound_j128
      rw [if_pos rfl]
      by_cases m0 : c.2.2.2.1 = 0
      · rw [if_pos m0]; exact j147
      · rw [if_neg m0, hforb m0, Option.bind_some, if_pos rfl]; exact j147
    by_cases m0 : c.2.2.2.1 = 0
    · obtain ⟨z1, z2, z3⟩ := hzero.mp m0
      rw [if_pos m0]
      unfold f_L_isSelectionSound_j111
      rw [if_pos z1, if_pos z2, if_pos z3]
      exact j128 1
    · have hnz : ¬ (p1 = 0 ∧ p2 = 0 ∧ p3 = 0) := fun h => m0 (hzero.mpr h)
      rw [if_neg m0]
      have e : f_L_isSelectionSound_j111 un2 tp2 c.1 c.2.1 c.2.2.1 c.2.2.2.1 ru2 c.2.2.2.2 pr ta se (nI N) (nI S) p1 p2 p3 c.2.2.2.1 (nI v) 0 = f_L_isSelectionSound_j128 un2 tp2 c.1 c.2.1 c.2.2.1 c.2.2.2.1 ru2 c.2.2.2.2 pr ta se (nI N) (nI S) p1 p2 p3 c.2.2.2.1 (nI v) 0 0 := by
        unfold f_L_isSelectionSound_j111 f_L_isSelectionSound_j127
        by_cases c0 : p1 = 0
        · rw [if_pos c0]
          by_cases c1 : p2 = 0
          · rw [if_pos c1, if_neg (fun c2 => hnz ⟨c0, c1, c2⟩)]
          · rw [if_neg c1]
        · rw [if_neg c0]
      rw [e]
      exact j128 0

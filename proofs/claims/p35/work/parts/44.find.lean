/-! the selection, all sets of three -/
abbrev CS5 : Type := (Nat → Int64) × Int64 × Int64 × Int32 × Int32
def SelC (pr ta se : Nat → Int32) (N S : Nat) (T : Nat → Int64) (c : CS5) : Prop := SelOK pr ta se N S T c.1 c.2.1 c.2.2.1 c.2.2.2.1 c.2.2.2.2
section FD
variable {pr ta se : Nat → Int32} {N S : Nat} {T : Nat → Int64}
theorem find3 (hC : Cu pr N) (hS : S ≤ 8) (hT : ∀ m, m < 3 → (T m).toInt.natAbs ≤ 2 ^ 31) {i j : Nat} (hij : i < j) (hj : j < N) (k0 : Nat) (hjk : j < k0) (hk0 : k0 ≤ N) (c : CS5) (hR : SelC pr ta se N S T c) :
    ∃ c', (∀ x, Rd pr ta N T x → lp (f_X1_find_b92 pr ta se (nI N) (nI S) x.1 x.2 (runM pr ta N) (nI i) (nI j)) 1000 (c.1, c.2.1, c.2.2.1, c.2.2.2.1, c.2.2.2.2, nI k0) = some c') ∧ SelC pr ta se N S T c' := by
  have hN := hC.1
  have hi : i < N := by omega
  refine lp_all (P := Rd pr ta N T) (b := fun x => f_X1_find_b92 pr ta se (nI N) (nI S) x.1 x.2 (runM pr ta N) (nI i) (nI j)) (fun k s => j < k ∧ s.2.2.2.2.2 = nI k ∧ SelOK pr ta se N S T s.1 s.2.1 s.2.2.1 s.2.2.2.1 s.2.2.2.2.1) N (SelC pr ta se N S T) ?_ 1000 k0 _ hk0 (by omega) ⟨hjk, rfl, hR⟩
  rintro k ⟨sh, de, co, ma, fo, y⟩ hk ⟨hjk, hy, hJ⟩
  replace hy : y = nI k := hy
  replace hJ : SelOK pr ta se N S T sh de co ma fo := hJ
  subst hy
  by_cases c : k < N
  · left
    refine ⟨c, ?_⟩
    have hu1 := usable_of (ta := ta) hC hi
    have hu2 := usable_of (ta := ta) hC hj
    have hu3 := usable_of (ta := ta) hC c
    have hnle := nI_ge c (show N < 2 ^ 31 by omega)
    rcases usb01 pr ta i with v1 | v1
    · rw [v1] at hu1
      refine ⟨(sh, de, co, ma, fo, nI (k + 1)), fun x _ => ?_, by omega, rfl, hJ⟩
      unfold f_X1_find_b92
      dsimp only
      rw [if_neg hnle, hu1, Option.bind_some, if_pos rfl, nI_1]
    · rcases usb01 pr ta j with v2 | v2
      · rw [v1] at hu1; rw [v2] at hu2
        refine ⟨(sh, de, co, ma, fo, nI (k + 1)), fun x _ => ?_, by omega, rfl, hJ⟩
        unfold f_X1_find_b92
        dsimp only
        rw [if_neg hnle, hu1, Option.bind_some, if_neg (by decide), hu2, Option.bind_some, if_pos rfl, nI_1]
      · rcases usb01 pr ta k with v3 | v3
        · rw [v1] at hu1; rw [v2] at hu2; rw [v3] at hu3
          refine ⟨(sh, de, co, ma, fo, nI (k + 1)), fun x _ => ?_, by omega, rfl, hJ⟩
          unfold f_X1_find_b92
          dsimp only
          rw [if_neg hnle, hu1, Option.bind_some, if_neg (by decide), hu2, Option.bind_some, if_neg (by decide), hu3, Option.bind_some, if_pos rfl, nI_1]
        · obtain ⟨c', hc', hn'⟩ := cons_st hC hS hT hij hjk c v1 v2 v3 hJ
          rw [v1] at hu1; rw [v2] at hu2; rw [v3] at hu3
          refine ⟨(c'.1, c'.2.1, c'.2.2.1, c'.2.2.2.1, c'.2.2.2.2, nI (k + 1)), fun x hx => ?_, by omega, rfl, hn'⟩
          unfold f_X1_find_b92
          dsimp only
          rw [if_neg hnle, hu1, Option.bind_some, if_neg (by decide), hu2, Option.bind_some, if_neg (by decide), hu3, Option.bind_some, if_neg (by decide), hc' x hx, Option.bind_some, nI_1]
  · right
    have : k = N := by omega
    subst this
    refine ⟨(sh, de, co, ma, fo), fun x _ => ?_, hJ⟩
    unfold f_X1_find_b92
    dsimp only
    rw [if_pos (Int32.le_refl _)]
theorem find2 (hC : Cu pr N) (hS : S ≤ 8) (hT : ∀ m, m < 3 → (T m).toInt.natAbs ≤ 2 ^ 31) {i : Nat} (hi : i < N) (k0 : Nat) (hjk : i < k0) (hk0 : k0 ≤ N) (c : CS5) (hR : SelC pr ta se N S T c) :
    ∃ c', (∀ x, Rd pr ta N T x → lp (f_X1_find_b77 pr ta se (nI N) (nI S) x.1 x.2 (runM pr ta N) (nI i)) 1000 (c.1, c.2.1, c.2.2.1, c.2.2.2.1, c.2.2.2.2, nI k0) = some c') ∧ SelC pr ta se N S T c' := by
  have hN := hC.1
  refine lp_all (P := Rd pr ta N T) (b := fun x => f_X1_find_b77 pr ta se (nI N) (nI S) x.1 x.2 (runM pr ta N) (nI i)) (fun k s => i < k ∧ s.2.2.2.2.2 = nI k ∧ SelOK pr ta se N S T s.1 s.2.1 s.2.2.1 s.2.2.2.1 s.2.2.2.2.1) N (SelC pr ta se N S T) ?_ 1000 k0 _ hk0 (by omega) ⟨hjk, rfl, hR⟩
  rintro k ⟨sh, de, co, ma, fo, y⟩ hk ⟨hjk, hy, hJ⟩
  replace hy : y = nI k := hy
  replace hJ : SelOK pr ta se N S T sh de co ma fo := hJ
  subst hy
  by_cases c : k < N
  · left
    refine ⟨c, ?_⟩
    obtain ⟨c', hc', hn'⟩ := find3 hC hS hT hjk c (k + 1) (by omega) c (sh, de, co, ma, fo) hJ
    refine ⟨(c'.1, c'.2.1, c'.2.2.1, c'.2.2.2.1, c'.2.2.2.2, nI (k + 1)), fun x hx => ?_, by omega, rfl, hn'⟩
    have e := hc' x hx
    dsimp only at e
    unfold f_X1_find_b77
    dsimp only
    rw [if_neg (nI_ge c (by omega)), nI_1, e, Option.bind_some]
  · right
    have : k = N := by omega
    subst this
    refine ⟨(sh, de, co, ma, fo), fun x _ => ?_, hJ⟩
    unfold f_X1_find_b77
    dsimp only
    rw [if_pos (Int32.le_refl _)]
theorem find1 (hC : Cu pr N) (hS : S ≤ 8) (hT : ∀ m, m < 3 → (T m).toInt.natAbs ≤ 2 ^ 31) (c : CS5) (hR : SelC pr ta se N S T c) :
    ∃ c', (∀ x, Rd pr ta N T x → lp (f_X1_find_b62 pr ta se (nI N) (nI S) x.1 x.2 (runM pr ta N)) 1000 (c.1, c.2.1, c.2.2.1, c.2.2.2.1, c.2.2.2.2, 0) = some c') ∧ SelC pr ta se N S T c' := by
  have hN := hC.1
  refine lp_all (P := Rd pr ta N T) (b := fun x => f_X1_find_b62 pr ta se (nI N) (nI S) x.1 x.2 (runM pr ta N)) (fun k s => s.2.2.2.2.2 = nI k ∧ SelOK pr ta se N S T s.1 s.2.1 s.2.2.1 s.2.2.2.1 s.2.2.2.2.1) N (SelC pr ta se N S T) ?_ 1000 0 _ (Nat.zero_le _) (by omega) ⟨rfl, hR⟩
  rintro k ⟨sh, de, co, ma, fo, y⟩ hk ⟨hy, hJ⟩
  replace hy : y = nI k := hy
  replace hJ : SelOK pr ta se N S T sh de co ma fo := hJ
  subst hy
  by_cases c : k < N
  · left
    refine ⟨c, ?_⟩
    obtain ⟨c', hc', hn'⟩ := find2 hC hS hT c (k + 1) (by omega) c (sh, de, co, ma, fo) hJ
    refine ⟨(c'.1, c'.2.1, c'.2.2.1, c'.2.2.2.1, c'.2.2.2.2, nI (k + 1)), fun x hx => ?_, rfl, hn'⟩
    have e := hc' x hx
    dsimp only at e
    unfold f_X1_find_b62
    dsimp only
    rw [if_neg (nI_ge c (by omega)), nI_1, e, Option.bind_some]
  · right
    have : k = N := by omega
    subst this
    refine ⟨(sh, de, co, ma, fo), fun x _ => ?_, hJ⟩
    unfold f_X1_find_b62
    dsimp only
    rw [if_pos (Int32.le_refl _)]
end FD
def TG (p1 p2 p3 : Int32) : Nat → Int64 := fun k => if k = 0 then p1.toInt64 else if k = 1 then p2.toInt64 else p3.toInt64
theorem TG_bd (p1 p2 p3 : Int32) (m : Nat) : (TG p1 p2 p3 m).toInt.natAbs ≤ 2 ^ 31 := by
  unfold TG
  split
  · exact tow_bd _
  · split
    · exact tow_bd _
    · exact tow_bd _
theorem find_j {pr ta se : Nat → Int32} {N S : Nat} (hC : Cu pr N) (hS : S ≤ 8) (p1 p2 p3 : Int32) :
    ∃ c' : CS5, SelC pr ta se N S (TG p1 p2 p3) c' ∧ ∀ un tp ru, ∃ un' tp', f_X1_find_j23 un tp (fun _ => 0) 1 0 0 ru 0 pr ta se (nI N) (nI S) p1 p2 p3 = some (un', tp', c'.1, c'.2.1, c'.2.2.1, c'.2.2.2.1, runM pr ta N, c'.2.2.2.2) := by
  have hN := hC.1
  obtain ⟨c', x1, x3⟩ := find1 (se := se) hC hS (fun m _ => TG_bd p1 p2 p3 m) ((fun _ => 0), 1, 0, 0, 0) ⟨fun _ _ => rfl, ⟨(show 0 < (1 : Int64).toInt from by decide), (show (1 : Int64).toInt ≤ 120000 from by decide)⟩, .inl ⟨rfl, rfl, rfl⟩⟩
  refine ⟨c', x3, fun un tp ru => ?_⟩
  obtain ⟨un', tp', r, hU, hT⟩ := readThr (ta := ta) hC un tp ru
  unfold f_X1_find_j23
  rw [r, Option.bind_some]
  dsimp only
  iterate 6 rw [gd_t (by rfl)]
  simp only [uR]
  generalize hW : updR (updR (updR un' (8 : Int32).toNatClampNeg (upd (un' (8 : Int32).toNatClampNeg) (0 : Int32).toNatClampNeg p1)) (8 : Int32).toNatClampNeg (upd (upd (un' (8 : Int32).toNatClampNeg) (0 : Int32).toNatClampNeg p1) (1 : Int32).toNatClampNeg p2)) (8 : Int32).toNatClampNeg (upd (upd (upd (un' (8 : Int32).toNatClampNeg) (0 : Int32).toNatClampNeg p1) (1 : Int32).toNatClampNeg p2) (2 : Int32).toNatClampNeg p3) = W
  have hRd : Rd pr ta N (TG p1 p2 p3) (W, tp') := by
    refine ⟨fun i hi k hk => ?_, hT, fun k hk => ?_⟩
    · subst hW
      have e : i ≠ (8 : Int32).toNatClampNeg := by show i ≠ 8; omega
      show updR _ _ _ i k = _
      rw [uRn e, uRn e, uRn e]; exact hU i hi k hk
    · subst hW
      match k, hk with
      | 0, _ => rfl
      | 1, _ => rfl
      | 2, _ => rfl
  have e := x1 _ hRd
  dsimp only at e
  rw [e]
  exact ⟨_, _, rfl⟩
/-- what is selected for a target -/
def SelR (pr ta se : Nat → Int32) (N S : Nat) (p1 p2 p3 : Int32) (c : CS5) : Prop :=
  (p1 = 0 ∧ p2 = 0 ∧ p3 = 0 ∧ c = ((fun _ => 0), 1, 0, 0, 1)) ∨ (¬ (p1 = 0 ∧ p2 = 0 ∧ p3 = 0) ∧ SelC pr ta se N S (TG p1 p2 p3) c)
theorem find_of {pr ta se : Nat → Int32} {N S : Nat} (hC : Cu pr N) (hS : S ≤ 8) (p1 p2 p3 : Int32) :
    ∃ c : CS5, SelR pr ta se N S p1 p2 p3 c ∧ ∀ un tp sh de co ma ru fo, zL 8 sh → ∃ un' tp' ru', f_X1_find pr ta se (nI N) (nI S) un tp sh de co ma ru fo p1 p2 p3 = some (un', tp', c.1, c.2.1, c.2.2.1, c.2.2.2.1, ru', c.2.2.2.2) := by
  obtain ⟨c', h1, h2⟩ := find_j (ta := ta) (se := se) hC hS p1 p2 p3
  by_cases z : p1 = 0 ∧ p2 = 0 ∧ p3 = 0
  · refine ⟨((fun _ => 0), 1, 0, 0, 1), Or.inl ⟨z.1, z.2.1, z.2.2, rfl⟩, fun un tp sh de co ma ru fo hs => ?_⟩
    unfold f_X1_find
    rw [clear_ok hs, Option.bind_some, if_pos z.1, if_pos z.2.1, if_pos z.2.2]
    exact ⟨_, _, _, rfl⟩
  · refine ⟨c', Or.inr ⟨z, h1⟩, fun un tp sh de co ma ru fo hs => ?_⟩
    obtain ⟨un', tp', e⟩ := h2 un tp ru
    refine ⟨un', tp', runM pr ta N, ?_⟩
    unfold f_X1_find
    rw [clear_ok hs, Option.bind_some]
    dsimp only
    rw [e]
    by_cases c0 : p1 = 0
    · rw [if_pos c0]
      by_cases c1 : p2 = 0
      · rw [if_pos c1, if_neg (fun c2 => z ⟨c0, c1, c2⟩)]
      · rw [if_neg c1]
    · rw [if_neg c0]
/-- what a selection gives whatever the target -/
theorem SelR.z {pr ta se : Nat → Int32} {N S : Nat} {p1 p2 p3 : Int32} {c : CS5} (h : SelR pr ta se N S p1 p2 p3 c) : zL 8 c.1 ∧ (0 < c.2.1.toInt ∧ c.2.1.toInt ≤ 120000) ∧ (c.2.2.2.2 = 0 ∨ c.2.2.2.2 = 1) ∧ (c.2.2.2.2 = 0 → c.1 = fun _ => 0) ∧ ∀ k, k < 8 → 0 ≤ (c.1 k).toInt ∧ (c.1 k).toInt ≤ 20 * c.2.1.toInt ∧ (0 < (c.1 k).toInt → k < N ∧ usb pr ta k = 1) := by
  rcases h with ⟨-, -, -, rfl⟩ | ⟨-, h1, h2, h3⟩
  · refine ⟨fun _ _ => rfl, ⟨(show 0 < (1 : Int64).toInt from by decide), (show (1 : Int64).toInt ≤ 120000 from by decide)⟩, .inr rfl, fun _ => rfl, fun k hk => ⟨(show 0 ≤ (0 : Int64).toInt from by decide), (show (0 : Int64).toInt ≤ 20 * (1 : Int64).toInt from by decide), fun e => absurd e (show ¬ 0 < (0 : Int64).toInt from by decide)⟩⟩
  · refine ⟨h1, h2, ?_⟩
    rcases h3 with ⟨a, b, d⟩ | ⟨a, b, -⟩
    · refine ⟨.inl a, fun _ => d, fun k hk => ?_⟩
      rw [d]
      have z : (0 : Int64).toInt = 0 := by decide
      show 0 ≤ (0 : Int64).toInt ∧ (0 : Int64).toInt ≤ 20 * c.2.1.toInt ∧ (0 < (0 : Int64).toInt → _)
      rw [z]
      exact ⟨by omega, by omega, fun e => absurd e (by omega)⟩
    · exact ⟨.inr a, fun e => absurd (a.symm.trans e) (by decide), fun k hk => ⟨(b k hk).1, (b k hk).2.1, (b k hk).2.2.2⟩⟩

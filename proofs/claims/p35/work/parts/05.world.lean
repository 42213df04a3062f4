/-! the cells of the system: an object's fields in the order of the tables, its arrays behind it -/
abbrev SV : Type := (Nat → Int32) × (Nat → Int32) × (Nat → Int32) × (Nat → Int32) × (Nat → Int32) × (Nat → Int32) × (Nat → Int64) × Int32 × Int32 × Int32 × Int32 × Int32
def wT (aT sS sH sE sX : Nat) : va_W := [(aT, .inr (4, [.ref sS, .ref sH, .ref sE, .ref sX]))]
def wS (cI cJ : ClassId) (a : Nat → Nat) (pr pu ta se qu im : Nat → Int32) (su : Nat → Int64) (tc sc rc cn so : Int32) : va_W :=
  [(a 0, .inr (2, [.ref (a 1), .ref (a 2), .ref (a 3), .ref (a 4), .ref (a 5), .ref (a 6), .ref (a 7), .int tc, .int sc, .int rc, .int cn, .int so])),
   (a 1, .inl (cI, 56, .inl pr)), (a 2, .inl (cI, 8, .inl pu)), (a 3, .inl (cI, 2, .inl ta)), (a 4, .inl (cI, 8, .inl se)), (a 5, .inl (cI, 30, .inl qu)), (a 6, .inl (cI, 9, .inl im)), (a 7, .inl (cJ, 3, .inr (.inl su)))]
def wSv (cI cJ : ClassId) (a : Nat → Nat) (u : SV) : va_W := wS cI cJ a u.1 u.2.1 u.2.2.1 u.2.2.2.1 u.2.2.2.2.1 u.2.2.2.2.2.1 u.2.2.2.2.2.2.1 u.2.2.2.2.2.2.2.1 u.2.2.2.2.2.2.2.2.1 u.2.2.2.2.2.2.2.2.2.1 u.2.2.2.2.2.2.2.2.2.2.1 u.2.2.2.2.2.2.2.2.2.2.2
def rwF (aR : Nat → Nat) : Nat → Option Nat := fun i => if i < 9 then some (aR i) else none
def wE (cI cJ cA : ClassId) (a aR : Nat → Nat) (un : Nat → Nat → Int32) (tp : Nat → Int32) (sh : Nat → Int64) (de co : Int64) (ma ru fo : Int32) : va_W :=
  [(a 0, .inr (1, [.ref (a 1), .ref (a 2), .ref (a 3), .long de, .long co, .int ma, .int ru, .int fo])),
   (a 1, .inl (cA, 9, .inr (.inr (.inr (.inr (rwF aR)))))), (a 2, .inl (cI, 8, .inl tp)), (a 3, .inl (cJ, 8, .inr (.inl sh))),
   (aR 0, .inl (cI, 3, .inl (un 0))), (aR 1, .inl (cI, 3, .inl (un 1))), (aR 2, .inl (cI, 3, .inl (un 2))), (aR 3, .inl (cI, 3, .inl (un 3))), (aR 4, .inl (cI, 3, .inl (un 4))), (aR 5, .inl (cI, 3, .inl (un 5))), (aR 6, .inl (cI, 3, .inl (un 6))), (aR 7, .inl (cI, 3, .inl (un 7))), (aR 8, .inl (cI, 3, .inl (un 8)))]
def wX (cI cZ : ClassId) (a : Nat → Nat) (bt pa ug : Nat → Int32) (le rn ax fa : Int32) : va_W :=
  [(a 0, .inr (3, [.ref (a 1), .ref (a 2), .ref (a 3), .int le, .int rn, .int ax, .int fa])), (a 1, .inl (cI, 100, .inl bt)), (a 2, .inl (cI, 30, .inl pa)), (a 3, .inl (cZ, 10, .inl ug))]
def hiF (hA : Nat → Nat → Nat) : Nat → Option Nat := fun i => if i < 5 then some (hA i 0) else none
def wH (cI cJ cO : ClassId) (a : Nat → Nat) (hA : Nat → Nat → Nat) (hs : Nat → SV) (ol ct : Int32) : va_W :=
  [(a 0, .inr (0, [.ref (a 1), .int ol, .int ct])), (a 1, .inl (cO, 5, .inr (.inr (.inr (.inr (hiF hA))))))] ++ (wSv cI cJ (hA 0) (hs 0) ++ (wSv cI cJ (hA 1) (hs 1) ++ (wSv cI cJ (hA 2) (hs 2) ++ (wSv cI cJ (hA 3) (hs 3) ++ wSv cI cJ (hA 4) (hs 4)))))
def wIa (cI : ClassId) (a n : Nat) (f : Nat → Int32) : va_W := [(a, .inl (cI, n, .inl f))]
def wLa (cJ : ClassId) (a n : Nat) (f : Nat → Int64) : va_W := [(a, .inl (cJ, n, .inr (.inl f)))]
def updR (un : Nat → Nat → Int32) (k : Nat) (f : Nat → Int32) : Nat → Nat → Int32 := fun j => if j = k then f else un j
def updH (hs : Nat → SV) (k : Nat) (u : SV) : Nat → SV := fun j => if j = k then u else hs j
theorem rwF_at {aR : Nat → Nat} {k : Nat} (h : k < 9) : rwF aR k = some (aR k) := if_pos h
theorem hiF_at {hA : Nat → Nat → Nat} {k : Nat} (h : k < 5) : hiF hA k = some (hA k 0) := if_pos h
theorem k_9 {P : Nat → Prop} (h0 : P 0) (h1 : P 1) (h2 : P 2) (h3 : P 3) (h4 : P 4) (h5 : P 5) (h6 : P 6) (h7 : P 7) (h8 : P 8) {k : Nat} (h : k < 9) : P k := by
  match k, h with
  | 0, _ => exact h0
  | 1, _ => exact h1
  | 2, _ => exact h2
  | 3, _ => exact h3
  | 4, _ => exact h4
  | 5, _ => exact h5
  | 6, _ => exact h6
  | 7, _ => exact h7
  | 8, _ => exact h8
theorem wE_row {cI cJ cA : ClassId} {a aR : Nat → Nat} {un : Nat → Nat → Int32} {tp : Nat → Int32} {sh : Nat → Int64} {de co : Int64} {ma ru fo : Int32} {r : va_W} {k : Nat} (h : k < 9) : (wE cI cJ cA a aR un tp sh de co ma ru fo ++ r)[4 + k]? = some (aR k, .inl (cI, 3, .inl (un k))) :=
  k_9 (P := fun k => (wE cI cJ cA a aR un tp sh de co ma ru fo ++ r)[4 + k]? = some (aR k, .inl (cI, 3, .inl (un k)))) rfl rfl rfl rfl rfl rfl rfl rfl rfl h
theorem wE_set {cI cJ cA : ClassId} {a aR : Nat → Nat} {un : Nat → Nat → Int32} {tp : Nat → Int32} {sh : Nat → Int64} {de co : Int64} {ma ru fo : Int32} {r : va_W} {k : Nat} (h : k < 9) (f : Nat → Int32) : (wE cI cJ cA a aR un tp sh de co ma ru fo ++ r).set (4 + k) (aR k, .inl (cI, 3, .inl f)) = wE cI cJ cA a aR (updR un k f) tp sh de co ma ru fo ++ r :=
  k_9 (P := fun k => (wE cI cJ cA a aR un tp sh de co ma ru fo ++ r).set (4 + k) (aR k, .inl (cI, 3, .inl f)) = wE cI cJ cA a aR (updR un k f) tp sh de co ma ru fo ++ r) rfl rfl rfl rfl rfl rfl rfl rfl rfl h
theorem k_5 {k : Nat} (h : k < 5) : k = 0 ∨ k = 1 ∨ k = 2 ∨ k = 3 ∨ k = 4 := by omega

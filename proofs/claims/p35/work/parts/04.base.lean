/-! pure programs -/
def gd {α : Type} (b : Bool) (k : Option α) : Option α := if b = true then k else none
theorem gd_s {α : Type} {b : Bool} {k : Option α} {r : α} (h : gd b k = some r) : b = true ∧ k = some r := by
  unfold gd at h
  by_cases hb : b = true
  · rw [if_pos hb] at h
    exact ⟨hb, h⟩
  · rw [if_neg hb] at h
    cases h
theorem gd_t {α : Type} {b : Bool} {k : Option α} (hb : b = true) : gd b k = k := if_pos hb
def ib (i : Int32) (n : Nat) : Bool := decide (¬ (i < 0 ∨ n ≤ i.toNatClampNeg))
theorem ib_in {i : Int32} {n : Nat} (h : ib i n = true) : vp_in i n := (of_decide_eq_true h : ¬ (i < 0 ∨ n ≤ i.toNatClampNeg))
def zb (v : Int32) : Bool := decide (v = 0 ∨ v = 1)
def nz (y : Int32) : Bool := decide (¬ y = 0)
def nzl (y : Int64) : Bool := decide (¬ y = 0)
theorem ib_lt {i : Int32} {n : Nat} (h : ib i n = true) : i.toNatClampNeg < n := Nat.not_le.mp fun q => ib_in h (Or.inr q)
theorem nz_s {y : Int32} (h : nz y = true) : ¬ y = 0 := of_decide_eq_true h
theorem nzl_s {y : Int64} (h : nzl y = true) : ¬ y = 0 := of_decide_eq_true h
theorem zb_s {v : Int32} (h : zb v = true) : narrow .boolean (.int v) = .int v := by
  rcases (of_decide_eq_true h : v = 0 ∨ v = 1) with rfl | rfl <;> rfl
def cpk (sp dp n : Int32) (n0 n1 : Nat) : Bool := decide (¬ sp < 0 ∧ ¬ dp < 0 ∧ ¬ n < 0 ∧ sp.toNatClampNeg + n.toNatClampNeg ≤ n0 ∧ dp.toNatClampNeg + n.toNatClampNeg ≤ n1)
theorem cpk_s {sp dp n : Int32} {n0 n1 : Nat} (h : cpk sp dp n n0 n1 = true) : ¬ sp < 0 ∧ ¬ dp < 0 ∧ ¬ n < 0 ∧ sp.toNatClampNeg + n.toNatClampNeg ≤ n0 ∧ dp.toNatClampNeg + n.toNatClampNeg ≤ n1 := of_decide_eq_true h
def lp {σ ρ : Type} (b : σ → Option (σ ⊕ ρ)) : Nat → σ → Option ρ
  | 0, _ => none
  | n + 1, s => (b s).bind (fun o => Sum.elim (lp b n) some o)
theorem lp_s {σ ρ : Type} {b : σ → Option (σ ⊕ ρ)} {n : Nat} {s : σ} {q : ρ} (h : lp b (n + 1) s = some q) : ∃ o, b s = some o ∧ Sum.elim (lp b n) some o = some q := Option.bind_eq_some_iff.mp h
theorem lp_b {σ ρ : Type} {b : σ → Option (σ ⊕ ρ)} {n : Nat} {z : σ} {q : ρ} (h : Sum.elim (lp b n) some (Sum.inl z) = some q) : lp b n z = some q := h
theorem lp_x {σ ρ : Type} {f : σ → Option ρ} {t q : ρ} (h : Sum.elim f some (Sum.inr t) = some q) : t = q := Option.some.inj h
theorem se_l {α β : Type} {γ : Type} {f : α → γ} {g : β → γ} {t : α} {r : γ} (h : Sum.elim f g (Sum.inl t) = r) : f t = r := h
theorem se_r {α β : Type} {γ : Type} {f : α → γ} {g : β → γ} {t : β} {r : γ} (h : Sum.elim f g (Sum.inr t) = r) : g t = r := h
theorem bd_s {α β : Type} {x : Option α} {f : α → Option β} {r : β} (h : x.bind f = some r) : ∃ q, x = some q ∧ f q = some r := Option.bind_eq_some_iff.mp h
/-! words -/
theorem tb_in {ws : List Cond} (h : ∀ w ∈ ws, w ∈ tb) : GoodIn tb ws := fun w hw => ⟨h w hw, good_of_word (tb_good w (h w hw))⟩
theorem tb_V {own C : String} {idx n : Nat} {y : MethodName} {b : ByteArray} {ret : Option FieldType} (h1 : Cond.methodLink own idx y ∈ tb) (h2 : Cond.instanceMethod y ∈ tb) (h3 : Cond.selects C y y ∈ tb) (h4 : Cond.initialized C ∈ tb) (h5 : Cond.code y b n ret ∈ tb) : GoodIn tb (wsV own idx C y (.code y b n ret :: tb)) := by
  refine tb_in (fun w hw => ?_)
  simp only [wsV, List.cons_append, List.nil_append, List.mem_cons] at hw
  rcases hw with rfl | rfl | rfl | rfl | rfl | hw <;> assumption
theorem tb_S {own : String} {idx n : Nat} {y : MethodName} {b : ByteArray} {ret : Option FieldType} (h1 : Cond.methodLink own idx y ∈ tb) (h2 : Cond.static y ∈ tb) (h4 : Cond.initialized y.cls ∈ tb) (h5 : Cond.code y b n ret ∈ tb) : GoodIn tb (va_wsS own idx y (.code y b n ret :: tb)) := by
  refine tb_in (fun w hw => ?_)
  simp only [va_wsS, List.cons_append, List.nil_append, List.mem_cons] at hw
  rcases hw with rfl | rfl | rfl | rfl | hw <;> assumption
theorem tb_I {n : Nat} {y : MethodName} {b : ByteArray} {ret : Option FieldType} (h5 : Cond.code y b n ret ∈ tb) : GoodIn tb (.code y b n ret :: tb) := by
  refine tb_in (fun w hw => ?_)
  rcases List.mem_cons.mp hw with rfl | hw <;> assumption
/-! the surroundings: nest links, the two static tables -/
def nwF : List (String × Nat × String × String × String × String) := [("ThrusterSelector", 169, "ThrusterSelector$State", "pulses", "[I", "ThrusterSelector"), ("ThrusterSelector", 95, "ThrusterSelector$State", "tanks", "[I", "ThrusterSelector"), ("ThrusterSelector", 160, "ThrusterSelector$State", "queue", "[I", "ThrusterSelector"), ("ThrusterSelector", 226, "ThrusterSelector$State", "impulses", "[I", "ThrusterSelector"), ("ThrusterSelector", 175, "ThrusterSelector$State", "sums", "[J", "ThrusterSelector"), ("ThrusterSelector$Selection", 38, "ThrusterSelector$State", "thrusterCount", "I", "ThrusterSelector"), ("ThrusterSelector", 51, "ThrusterSelector$State", "thrusterCount", "I", "ThrusterSelector"), ("ThrusterSelector", 109, "ThrusterSelector$State", "setCount", "I", "ThrusterSelector"), ("ThrusterSelector", 157, "ThrusterSelector$State", "requestCount", "I", "ThrusterSelector"), ("ThrusterSelector", 166, "ThrusterSelector$State", "cycleNumber", "I", "ThrusterSelector"), ("ThrusterSelector", 193, "ThrusterSelector$History", "count", "I", "ThrusterSelector"), ("ThrusterSelector", 136, "ThrusterSelector$Selection", "mask", "I", "ThrusterSelector"), ("ThrusterSelector", 132, "ThrusterSelector$Selection", "found", "Z", "ThrusterSelector"), ("ThrusterSelector", 211, "ThrusterSelector$Text", "parts", "[I", "ThrusterSelector"), ("ThrusterSelector", 214, "ThrusterSelector$Text", "urgent", "[Z", "ThrusterSelector"), ("ThrusterSelector", 208, "ThrusterSelector$Text", "readCount", "I", "ThrusterSelector"), ("ThrusterSelector$State", 71, "ThrusterSelector", "DIRECTION_X", "[I", "ThrusterSelector"), ("ThrusterSelector$State", 74, "ThrusterSelector", "DIRECTION_Y", "[I", "ThrusterSelector")]
def dX (k : Nat) : Int32 := if k = 0 then 1 else if k = 2 then -1 else 0
def dY (k : Nat) : Int32 := if k = 1 then 1 else if k = 3 then -1 else 0
def dxF : Nat → Value := fun k => .int (dX k)
def dyF : Nat → Value := fun k => .int (dY k)
def Ev (e : Nat × Nat) (A : Nat → Prop) (U : State) (H : Heap) : Prop :=
  (∀ q ∈ nwF, va_Nw (.fieldLinkNest q.1 q.2.1 q.2.2.1 q.2.2.2.1 q.2.2.2.2.1 q.2.2.2.2.2) U) ∧ va_Z "ThrusterSelector" "DIRECTION_X" "[I" (.ref e.1) A U H ∧ va_Z "ThrusterSelector" "DIRECTION_Y" "[I" (.ref e.2) A U H ∧ va_T .int e.1 4 dxF A U H ∧ va_T .int e.2 4 dyF A U H
theorem Ev.nw {e : Nat × Nat} {A : Nat → Prop} {U : State} {H : Heap} {args : Array Value} (h : Ev e A U H) {a : String} {i : Nat} {b n d o : String} (hq : (a, i, b, n, d, o) ∈ nwF) : (Cond.fieldLinkNest a i b n d o).before args U = true := va_Nw.use rfl (h.1 _ hq)
theorem Ev.to {e : Nat × Nat} {A B : Nat → Prop} {s U : State} {H : Heap} {locs : List Loc} (h : Ev e A s s.heap) (hW : s.WarmedH U.vm) (hS : va_S A s.heap H locs) (hBA : ∀ q, B q → A q) : Ev e B U H := by
  have k : ∀ a : Nat, a < s.heap.size → ¬ A a → H[a]? = s.heap[a]? := hS.2.1
  exact ⟨fun q hq => va_Nw.warmF hW (h.1 q hq), ((h.2.1.kept k).moved hW.alike).narrow hBA, ((h.2.2.1.kept k).moved hW.alike).narrow hBA, ((h.2.2.2.1.kept k).moved hW.alike).narrow hBA, ((h.2.2.2.2.kept k).moved hW.alike).narrow hBA⟩
theorem Ev.calling {e : Nat × Nat} {A : Nat → Prop} {U : State} {H : Heap} {g : JFrame} {mk : MethodId} {a : Array Value} (h : Ev e A U H) : Ev e A (U.calling g mk a) H :=
  ⟨fun q hq => va_Nw.same rfl (u := U) (U := U.calling g mk a) rfl (h.1 q hq), h.2.1.moved (u := U) (U := U.calling g mk a) (Vm.Alike.refl U.vm), h.2.2.1.moved (u := U) (U := U.calling g mk a) (Vm.Alike.refl U.vm), h.2.2.2.1.moved (u := U) (U := U.calling g mk a) (Vm.Alike.refl U.vm), h.2.2.2.2.moved (u := U) (U := U.calling g mk a) (Vm.Alike.refl U.vm)⟩
def ty5 (cI cJ cZ cO cA : ClassId) : List (ClassId × FieldType) := [(cI, .int), (cJ, .long), (cZ, .boolean), (cO, .object "ThrusterSelector$State"), (cA, .array .int)]
/-! a method's start and end -/
def gPre (G : va_G) (ty : List (ClassId × FieldType)) (e : Nat × Nat) (ws : va_W) (sz : Nat) : State → Prop := fun U => U.heap.size = sz ∧ va_P G vwCl ws U.heap ∧ va_K G vwCl ty U ∧ va_D (fun _ => True) ws ∧ Ev e (va_A ws sz) U U.heap
def gEnd (G : va_G) (ty : List (ClassId × FieldType)) (A : Nat → Prop) (ws : va_W) : State → Prop := fun t => va_P G vwCl ws t.heap ∧ va_K G vwCl ty t ∧ va_D A ws
def qI (G : va_G) (ty : List (ClassId × FieldType)) (A : Nat → Prop) (ws : va_W) (r : Int32) : Array Value → State → Outcome → State → Prop := va_Qi (fun (rr : Int32) (_ : Unit) => rr = r) (fun _ => gEnd G ty A ws) A
def qL (G : va_G) (ty : List (ClassId × FieldType)) (A : Nat → Prop) (ws : va_W) (r : Int64) : Array Value → State → Outcome → State → Prop := va_Ql (fun (rr : Int64) (_ : Unit) => rr = r) (fun _ => gEnd G ty A ws) A
def qV (G : va_G) (ty : List (ClassId × FieldType)) (A : Nat → Prop) (ws : va_W) : Array Value → State → Outcome → State → Prop := va_Qv (fun (_ : Unit) => True) (fun _ => gEnd G ty A ws) A
def MetI (l : Launch) (y : MethodName) (b : ByteArray) (n : Nat) (t : FieldType) (rm : Room) (av : List Value) (G : va_G) (ty : List (ClassId × FieldType)) (e : Nat × Nat) (ws ws' : va_W) (sz : Nat) (r : Int32) : Prop := Met l y (.code y b n (some t) :: tb) rm (va_Pc av (gPre G ty e ws sz)) (qI G ty (va_A ws sz) ws' r) 0 0 (va_A ws sz)
def MetL (l : Launch) (y : MethodName) (b : ByteArray) (n : Nat) (rm : Room) (av : List Value) (G : va_G) (ty : List (ClassId × FieldType)) (e : Nat × Nat) (ws ws' : va_W) (sz : Nat) (r : Int64) : Prop := Met l y (.code y b n (some .long) :: tb) rm (va_Pc av (gPre G ty e ws sz)) (qL G ty (va_A ws sz) ws' r) 0 0 (va_A ws sz)
def MetV (l : Launch) (y : MethodName) (b : ByteArray) (n : Nat) (rm : Room) (av : List Value) (G : va_G) (ty : List (ClassId × FieldType)) (e : Nat × Nat) (ws ws' : va_W) (sz : Nat) : Prop := Met l y (.code y b n none :: tb) rm (va_Pc av (gPre G ty e ws sz)) (qV G ty (va_A ws sz) ws') 0 0 (va_A ws sz)
theorem g_blind {av : List Value} {G : va_G} {ty : List (ClassId × FieldType)} {e : Nat × Nat} {ws : va_W} {sz : Nat} : FrameBlind (va_Pc av (gPre G ty e ws sz)) := by
  intro a U g mk h
  obtain ⟨h1, h2, h3, h4, h5, h6⟩ := h
  exact ⟨h1, h2, h3, va_K.moved (u := U) (U := U.calling g mk a) (Vm.Alike.refl U.vm) h4, h5, h6.calling⟩
theorem g_body {l : Launch} {y : MethodName} {b : ByteArray} {n : Nat} {t : Option FieldType} {rm : Room} {av : List Value} {G : va_G} {ty : List (ClassId × FieldType)} {e : Nat × Nat} {ws : va_W} {sz : Nat} {QQ : (Nat → Prop) → Array Value → State → Outcome → State → Prop} {own : String} (hy : plainName y.cls = true) (ho : y.cls = own) (hn : (lg_sl av).length ≤ n)
    (body : ∀ (p : Program) (ev : Env) (s : State) (m : MethodId) (below : List Frame) (meth : Method) (c : Code) (A : Nat → Prop) (ls : Array Slot), p.tables.exec = Jvm.exec → c.code = b → meth.sig.returnType = t → c.maxLocals = n → s.vm.findClass own = some m.cls → (∀ w ∈ tb, w.before av.toArray s = true) → meth.locks = false → (∀ q : Nat, s.heap.size ≤ q → A q) → va_P G vwCl ws s.heap → va_D A ws → va_S A s.heap s.heap [] → va_K G vwCl ty s → Ev e A s s.heap → lv_has ls n (lv_args 0 av) →
      W p l ev rm s m av.toArray below meth c s.heap [] 0 0 (MQ below (QQ A) av.toArray s 0 0 A) (F0 m 0 ls [])) : Met l y (.code y b n t :: tb) rm (va_Pc av (gPre G ty e ws sz)) (QQ (va_A ws sz)) 0 0 (va_A ws sz) := by
  refine Met.ofW (cc := b) (maxL := n) (ret := t) hy rfl ?_
  intro p ev s m args below meth c s₁ B hml hv
  obtain ⟨rfl, hsz, hP, hK, hD0, hE⟩ := hv
  have hts0 := atoms_spec (ws := .code y b n t :: tb) B.pre
  have hown : s.vm.findClass own = some m.cls := ho ▸ findClass_of_methodNamed B.named
  subst hsz
  rw [lg_entry_eq]
  exact body p ev s m below meth c (va_A ws s.heap.size) _ B.exec B.bytes B.returns hml hown (fun w hw => hts0 w (List.mem_cons_of_mem _ hw)) B.notSynchronized (fun q h => Or.inr h) hP hD0.self va_S.rf hK hE (lv_entry av hn)
section KR
variable {p : Program} {l : Launch} {ev : Env} {R : Room} {s : State} {m : MethodId} {args : Array Value} {below : List Frame} {meth : Method} {c : Code} {H : Heap} {locs : List Loc} {Q : State → Prop}
variable {cc : ByteArray} {pc : Nat} {ls : Array Slot} {rest : List Value} {G : va_G} {ty : List (ClassId × FieldType)} {A : Nat → Prop} {ws ws' wc w1 : va_W} {e : Nat × Nat}
theorem kri {t : FieldType} {v r : Int32} (hx : p.tables.exec = Jvm.exec) (hb : c.code = cc) (hr : meth.sig.returnType = some t) (hlk : meth.locks = false) (hn : narrow t (.int v) = .int v) (hv : v = r) (hP : va_P G vwCl ws' H) (hD : va_D A ws') (hS : va_S A s.heap H locs) (hK : va_K G vwCl ty s) (hdg : decode cc pc = .ok (.ireturn, 1)) :
    W p l ev R s m args below meth c H locs 0 0 (MQ below (qI G ty A ws' r) args s 0 0 A) (F0 m pc ls [.int v]) :=
  W.zret (v := v) hx hb hr hn (fun t ht hW => ⟨⟨v, (), rfl, hv, by rw [ht]; exact hP, va_K.moved hW.alike hK, hD⟩, hS.F ht⟩) hS.2.2 hdg hlk
theorem krl {v r : Int64} (hx : p.tables.exec = Jvm.exec) (hb : c.code = cc) (hr : meth.sig.returnType = some .long) (hlk : meth.locks = false) (hv : v = r) (hP : va_P G vwCl ws' H) (hD : va_D A ws') (hS : va_S A s.heap H locs) (hK : va_K G vwCl ty s) (hdg : decode cc pc = .ok (.lreturn, 1)) :
    W p l ev R s m args below meth c H locs 0 0 (MQ below (qL G ty A ws' r) args s 0 0 A) (F0 m pc ls [.long v]) :=
  W.lret (v := v) hx hb hr (fun t ht hW => ⟨⟨v, (), rfl, hv, by rw [ht]; exact hP, va_K.moved hW.alike hK, hD⟩, hS.F ht⟩) hS.2.2 hdg hlk
theorem krv (hx : p.tables.exec = Jvm.exec) (hb : c.code = cc) (hr : meth.sig.returnType = none) (hlk : meth.locks = false) (hP : va_P G vwCl ws' H) (hD : va_D A ws') (hS : va_S A s.heap H locs) (hK : va_K G vwCl ty s) (hdg : decode cc pc = .ok (.return_, 1)) :
    W p l ev R s m args below meth c H locs 0 0 (MQ below (qV G ty A ws') args s 0 0 A) (F0 m pc ls []) :=
  W.vret hx hb hr (fun t ht hW => ⟨⟨(), rfl, trivial, by rw [ht]; exact hP, va_K.moved hW.alike hK, hD⟩, hS.F ht⟩) hS.2.2 hdg hlk
theorem kald {ft : FieldType} {cells slots a a1 : Nat} {tys : List (ClassId × FieldType)} {D : va_G} {cl : List vw_C} (hx : p.tables.exec = Jvm.exec) (hb : c.code = cc) (hK : va_K D cl tys s) (hP : va_P D cl ws H) (q0 t0 : Nat) {cA : ClassId} {n : Nat} {f : Nat → Option Nat} (ha : ws[q0]? = some (a, .inl (cA, n, .inr (.inr (.inr (.inr f)))))) (ht : tys[t0]? = some (cA, ft)) (hft : ft.isReference = true) {i : Int32} (hin : vp_in i n) (hv : f i.toNatClampNeg = some a1) (hdg : decode cc pc = .ok (.aaload, 1))
    (kk : W p l ev R s m args below meth c H locs cells slots Q (F0 m (pc + 1) ls (.ref a1 :: rest))) : W p l ev R s m args below meth c H locs cells slots Q (F0 m pc ls (.int i :: .ref a :: rest)) := by
  have hlt : i.toNatClampNeg < n := Nat.not_le.mp fun q => hin (Or.inr q)
  exact W.aald (v := .ref a1) (ty := ft) hx hb (hP q0 _ ha) ((hK.2 t0 _ ht).1 n (fun j => va_rf (f j))) hft (fun q => by cases q) (by show ¬ (i < 0 ∨ (arrV _ _ _).slots.size ≤ _); rw [arrV_size]; exact hin) (by show (arrV _ _ _).slots[_]? = _; rw [arrV_read _ _ hlt, hv]; rfl) rfl rfl hdg kk
/-! the world behind a call: the callee's cells in their places, the others as they were -/
def kOk (n : Nat) (isC isR : List Nat) : Bool := (List.range n).all (fun k => isC.contains k || isR.contains k) && isR.all (fun k => !isC.contains k && decide (k < n))
theorem kjoin {A0 : Nat → Prop} {H1 : Heap} (hP : va_P G vwCl ws H) (hD : va_D A0 ws) (isC isR : List Nat) (hC : isC.map (fun i => ws[i]?) = wc.map some) (hC2 : isC.map (fun i => ws'[i]?) = w1.map some) (hR : isR.map (fun i => ws'[i]?) = (isR.filterMap (fun i => ws[i]?)).map some) (nw : Nat) (hln : ws'.length = nw ∧ ws.length = nw) (hk : kOk nw isC isR = true)
    (hkeep : ∀ q : Nat, q < H.size → ¬ va_A wc H.size q → H1[q]? = H[q]?) (hF : ∀ q, va_A wc H.size q → A0 q) (hP1 : va_P G vwCl w1 H1) (hD1 : va_D (va_A wc H.size) w1) : va_P G vwCl ws' H1 ∧ va_D A0 ws' := by
  obtain ⟨hln, hln0⟩ := hln
  have hk0 := hk
  unfold kOk at hk0
  rw [Bool.and_eq_true, List.all_eq_true, List.all_eq_true] at hk0
  obtain ⟨hk1', hk2'⟩ := hk0
  have hk1 : ∀ k, k < nw → k ∈ isC ∨ k ∈ isR := fun k h => by
    have h1 := hk1' k (List.mem_range.mpr h)
    rw [Bool.or_eq_true] at h1
    exact h1.imp List.contains_iff_mem.mp List.contains_iff_mem.mp
  have hk2 : ∀ k ∈ isR, k ∉ isC := fun k h hc => by
    have h1 := hk2' k h
    rw [Bool.and_eq_true, List.contains_iff_mem.mpr hc] at h1
    cases h1.1
  have hk3 : ∀ k ∈ isR, k < ws.length := fun k h => by
    have h1 := hk2' k h
    rw [Bool.and_eq_true] at h1
    rw [hln0]
    exact of_decide_eq_true h1.2
  have hfm : ∀ (l : List Nat), (∀ k ∈ l, k < ws.length) → (l.filterMap (fun i => ws[i]?)).map some = l.map (fun i => ws[i]?) := by
    intro l
    induction l with
    | nil => intro _; rfl
    | cons a l ih =>
      intro h
      have ha := h a List.mem_cons_self
      have e : ws[a]? = some ws[a] := List.getElem?_eq_getElem ha
      rw [List.filterMap_cons, e]
      simp only [List.map_cons]
      rw [e, ih (fun k hk => h k (List.mem_cons_of_mem _ hk))]
  rw [hfm isR hk3] at hR
  have key : ∀ (k : Nat) (q : Nat × va_E), ws'[k]? = some q → (∃ j : Nat, isC[j]? = some k ∧ w1[j]? = some q) ∨ (k ∈ isR ∧ k ∉ isC ∧ ws[k]? = some q) := by
    intro k q hq
    have hlt := (List.getElem?_eq_some_iff.mp hq).1
    rw [hln] at hlt
    rcases hk1 k hlt with h | h
    · obtain ⟨j, hj⟩ := List.getElem?_of_mem h
      have h1 : (isC.map (fun i => ws'[i]?))[j]? = some (some q) := by rw [List.getElem?_map, hj]; show some (ws'[k]?) = _; rw [hq]
      rw [hC2, List.getElem?_map] at h1
      cases hw : w1[j]? with
      | none => rw [hw] at h1; cases h1
      | some z => rw [hw] at h1; exact Or.inl ⟨j, hj, by rw [hw]; exact Option.some.inj h1⟩
    · obtain ⟨j, hj⟩ := List.getElem?_of_mem h
      have h1 : (isR.map (fun i => ws'[i]?))[j]? = some (some q) := by rw [List.getElem?_map, hj]; show some (ws'[k]?) = _; rw [hq]
      rw [hR, List.getElem?_map, hj] at h1
      exact Or.inr ⟨h, hk2 k h, Option.some.inj h1⟩
  have apart : ∀ (k : Nat) (q : Nat × va_E), k ∉ isC → ws[k]? = some q → q.1 < H.size ∧ ¬ va_A wc H.size q.1 := by
    intro k q hn hq
    have hl := (hP k q hq).lt
    refine ⟨hl, fun h => ?_⟩
    rcases h with ⟨k2, e2, h⟩ | h
    · have h1 : (isC.map (fun i => ws[i]?))[k2]? = some (some (q.1, e2)) := by rw [hC, List.getElem?_map, h]; rfl
      rw [List.getElem?_map] at h1
      cases hi : isC[k2]? with
      | none => rw [hi] at h1; cases h1
      | some i =>
        rw [hi] at h1
        have hij := hD.1 k i q (q.1, e2) hq (Option.some.inj h1) rfl
        subst hij
        exact hn (List.mem_of_getElem? hi)
    · omega
  refine ⟨fun k q hq => ?_, fun i j x y hi hj hxy => ?_, fun k q hq => ?_⟩
  · rcases key k q hq with ⟨j, -, h⟩ | ⟨-, hn, h⟩
    · exact hP1 j q h
    · obtain ⟨g1, g2⟩ := apart k q hn h
      exact (hP k q h).kept (hkeep q.1 g1 g2)
  · rcases key i x hi with ⟨j1, hj1, h1⟩ | ⟨-, hn1, h1⟩ <;> rcases key j y hj with ⟨j2, hj2, h2⟩ | ⟨-, hn2, h2⟩
    · have := hD1.1 j1 j2 x y h1 h2 hxy
      subst this
      exact Option.some.inj (hj1.symm.trans hj2)
    · exact absurd (hxy ▸ hD1.2 j1 x h1) (apart j y hn2 h2).2
    · exact absurd (hxy ▸ hD1.2 j2 y h2) (apart i x hn1 h1).2
    · exact hD.1 i j x y h1 h2 hxy
  · rcases key k q hq with ⟨j, -, h⟩ | ⟨-, hn, h⟩
    · exact hF _ (hD1.2 j q h)
    · exact hD.2 k q h
theorem k_pc {wc ws : va_W} (hK : va_K G vwCl ty s) (hP : va_P G vwCl ws H) (hD : va_D A ws) (hS : va_S A s.heap H locs) (hA : ∀ q : Nat, s.heap.size ≤ q → A q) (hE : Ev e A s s.heap) (isC : List Nat) (hC : isC.map (fun i => ws[i]?) = wc.map some) (hn : va_nd isC = true) {av : List Value} {U : State} (hU : U.heap = H) (hW : s.WarmedH U.vm) : va_Pc av (gPre G ty e wc H.size) av.toArray U := by
  have hF := va_free (wc := wc) hD hS hA isC hC
  have hi : isC.filterMap (fun i => ws[i]?) = wc := by
    have h1 : (isC.map (fun i => ws[i]?)).filterMap id = (wc.map some).filterMap id := by rw [hC]
    rw [List.filterMap_map, List.filterMap_map] at h1
    simpa using h1
  exact ⟨rfl, by rw [hU], by rw [hU]; exact hP.sub isC hi, va_K.moved hW.alike hK, (hD.sub isC hn hC).weaken (fun _ _ _ _ => trivial), by rw [hU]; exact hE.to hW hS hF⟩
variable {own C : String} {index maxL nL n : Nat} {y : MethodName} {bytes : ByteArray} {rm : Room} {b : Nat} {As st0 : List Value} {T : u_T} {N ci cells slots : Nat} {fs : List Value}
theorem kVi {t : FieldType} {r : Int32} (hx : p.tables.exec = Jvm.exec) (hb : c.code = cc) (hml : c.maxLocals = nL) (hown : s.vm.findClass own = some m.cls) (hts : ∀ w ∈ tb, w.before args s = true) (hM : MetI l y bytes maxL t rm (.ref b :: As) G ty e wc w1 H.size r) (hg : GoodIn tb (wsV own index C y (.code y bytes maxL (some t) :: tb))) (hc0 : rm.cells = 0) (hs0 : rm.slots = 0)
    (hd : y.cls = C ∧ y.cls ≠ "java/lang/invoke/MethodHandle" ∧ y.cls ≠ "java/lang/invoke/VarHandle" ∧ (parseMethodDescriptor y.desc).map (fun d => d.parameters.length) = some n) (hRm : rm.frames + 1 ≤ R.frames ∧ 8 + (maxL + 11) + rm.locals ≤ R.locals)
    (hK : va_K G vwCl ty s) (hP : va_P G vwCl ws H) (hD : va_D A ws) (hS : va_S A s.heap H locs) (hA : ∀ q : Nat, s.heap.size ≤ q → A q) (hE : Ev e A s s.heap) (q0 : Nat) (he : ws[q0]? = some (b, .inr (ci, fs))) (hcl : vwCl[ci]? = some (C, T, N))
    (isC isR : List Nat) (hC : isC.map (fun i => ws[i]?) = wc.map some) (hC2 : isC.map (fun i => ws'[i]?) = w1.map some) (hR : isR.map (fun i => ws'[i]?) = (isR.filterMap (fun i => ws[i]?)).map some) (nw : Nat) (hln : ws'.length = nw ∧ ws.length = nw) (hk : kOk nw isC isR = true) (hnd : va_nd isC = true)
    (hnA : As.length = n) (hst : st0 = As.reverse ++ .ref b :: rest) (hsz : ls.size = nL) (hW : (rest.map fun v => v.category).sum ≤ 8) (hcells : cells + 0 ≤ R.cells ∧ slots + 0 ≤ R.slots) (hdg : decode cc pc = .ok (.invokevirtual index, 3))
    (kk : ∀ (H1 : Heap) (locs1 : List Loc), va_P G vwCl ws' H1 → va_D A ws' → va_S A s.heap H1 locs1 → W p l ev R s m args below meth c H1 locs1 cells slots Q (F0 m (pc + 3) ls (.int r :: rest))) : W p l ev R s m args below meth c H locs cells slots Q (F0 m pc ls st0) := by
  have hF := va_free (wc := wc) hD hS hA isC hC
  refine va_calli (va_runV (As := As) (rest := rest) ⟨hx, hb, hml, hown, hts⟩ hM (cwV n hts hg rfl hc0 hs0 hd hRm) ⟨g_blind, va_recv hK hP hcl he, fun U hU hW => k_pc hK hP hD hS hA hE isC hC hnd hU hW⟩ rfl hnA hsz hst (lv_room hW) hdg hcells) hS (fun q _ h => hF q h) hF (fun rr u t H1 locs1 ht hvm hw hB hz1 hk1 hS1 => ?_)
  obtain ⟨hP1, -, hD1⟩ := hB
  rw [ht] at hP1
  obtain ⟨hP2, hD2⟩ := kjoin (ws' := ws') hP hD isC isR hC hC2 hR nw hln hk hk1 hF hP1 hD1
  subst hw
  exact kk H1 locs1 hP2 hD2 hS1
theorem kVl {r : Int64} (hx : p.tables.exec = Jvm.exec) (hb : c.code = cc) (hml : c.maxLocals = nL) (hown : s.vm.findClass own = some m.cls) (hts : ∀ w ∈ tb, w.before args s = true) (hM : MetL l y bytes maxL rm (.ref b :: As) G ty e wc w1 H.size r) (hg : GoodIn tb (wsV own index C y (.code y bytes maxL (some .long) :: tb))) (hc0 : rm.cells = 0) (hs0 : rm.slots = 0)
    (hd : y.cls = C ∧ y.cls ≠ "java/lang/invoke/MethodHandle" ∧ y.cls ≠ "java/lang/invoke/VarHandle" ∧ (parseMethodDescriptor y.desc).map (fun d => d.parameters.length) = some n) (hRm : rm.frames + 1 ≤ R.frames ∧ 8 + (maxL + 11) + rm.locals ≤ R.locals)
    (hK : va_K G vwCl ty s) (hP : va_P G vwCl ws H) (hD : va_D A ws) (hS : va_S A s.heap H locs) (hA : ∀ q : Nat, s.heap.size ≤ q → A q) (hE : Ev e A s s.heap) (q0 : Nat) (he : ws[q0]? = some (b, .inr (ci, fs))) (hcl : vwCl[ci]? = some (C, T, N))
    (isC isR : List Nat) (hC : isC.map (fun i => ws[i]?) = wc.map some) (hC2 : isC.map (fun i => ws'[i]?) = w1.map some) (hR : isR.map (fun i => ws'[i]?) = (isR.filterMap (fun i => ws[i]?)).map some) (nw : Nat) (hln : ws'.length = nw ∧ ws.length = nw) (hk : kOk nw isC isR = true) (hnd : va_nd isC = true)
    (hnA : As.length = n) (hst : st0 = As.reverse ++ .ref b :: rest) (hsz : ls.size = nL) (hW : (rest.map fun v => v.category).sum ≤ 8) (hcells : cells + 0 ≤ R.cells ∧ slots + 0 ≤ R.slots) (hdg : decode cc pc = .ok (.invokevirtual index, 3))
    (kk : ∀ (H1 : Heap) (locs1 : List Loc), va_P G vwCl ws' H1 → va_D A ws' → va_S A s.heap H1 locs1 → W p l ev R s m args below meth c H1 locs1 cells slots Q (F0 m (pc + 3) ls (.long r :: rest))) : W p l ev R s m args below meth c H locs cells slots Q (F0 m pc ls st0) := by
  have hF := va_free (wc := wc) hD hS hA isC hC
  refine va_calll (va_runV (As := As) (rest := rest) ⟨hx, hb, hml, hown, hts⟩ hM (cwV n hts hg rfl hc0 hs0 hd hRm) ⟨g_blind, va_recv hK hP hcl he, fun U hU hW => k_pc hK hP hD hS hA hE isC hC hnd hU hW⟩ rfl hnA hsz hst (lv_room hW) hdg hcells) hS (fun q _ h => hF q h) hF (fun rr u t H1 locs1 ht hvm hw hB hz1 hk1 hS1 => ?_)
  obtain ⟨hP1, -, hD1⟩ := hB
  rw [ht] at hP1
  obtain ⟨hP2, hD2⟩ := kjoin (ws' := ws') hP hD isC isR hC hC2 hR nw hln hk hk1 hF hP1 hD1
  subst hw
  exact kk H1 locs1 hP2 hD2 hS1
theorem kVv (hx : p.tables.exec = Jvm.exec) (hb : c.code = cc) (hml : c.maxLocals = nL) (hown : s.vm.findClass own = some m.cls) (hts : ∀ w ∈ tb, w.before args s = true) (hM : MetV l y bytes maxL rm (.ref b :: As) G ty e wc w1 H.size) (hg : GoodIn tb (wsV own index C y (.code y bytes maxL none :: tb))) (hc0 : rm.cells = 0) (hs0 : rm.slots = 0)
    (hd : y.cls = C ∧ y.cls ≠ "java/lang/invoke/MethodHandle" ∧ y.cls ≠ "java/lang/invoke/VarHandle" ∧ (parseMethodDescriptor y.desc).map (fun d => d.parameters.length) = some n) (hRm : rm.frames + 1 ≤ R.frames ∧ 8 + (maxL + 11) + rm.locals ≤ R.locals)
    (hK : va_K G vwCl ty s) (hP : va_P G vwCl ws H) (hD : va_D A ws) (hS : va_S A s.heap H locs) (hA : ∀ q : Nat, s.heap.size ≤ q → A q) (hE : Ev e A s s.heap) (q0 : Nat) (he : ws[q0]? = some (b, .inr (ci, fs))) (hcl : vwCl[ci]? = some (C, T, N))
    (isC isR : List Nat) (hC : isC.map (fun i => ws[i]?) = wc.map some) (hC2 : isC.map (fun i => ws'[i]?) = w1.map some) (hR : isR.map (fun i => ws'[i]?) = (isR.filterMap (fun i => ws[i]?)).map some) (nw : Nat) (hln : ws'.length = nw ∧ ws.length = nw) (hk : kOk nw isC isR = true) (hnd : va_nd isC = true)
    (hnA : As.length = n) (hst : st0 = As.reverse ++ .ref b :: rest) (hsz : ls.size = nL) (hW : (rest.map fun v => v.category).sum ≤ 8) (hcells : cells + 0 ≤ R.cells ∧ slots + 0 ≤ R.slots) (hdg : decode cc pc = .ok (.invokevirtual index, 3))
    (kk : ∀ (H1 : Heap) (locs1 : List Loc), va_P G vwCl ws' H1 → va_D A ws' → va_S A s.heap H1 locs1 → W p l ev R s m args below meth c H1 locs1 cells slots Q (F0 m (pc + 3) ls rest)) : W p l ev R s m args below meth c H locs cells slots Q (F0 m pc ls st0) := by
  have hF := va_free (wc := wc) hD hS hA isC hC
  refine va_callv (va_runV (As := As) (rest := rest) ⟨hx, hb, hml, hown, hts⟩ hM (cwV n hts hg rfl hc0 hs0 hd hRm) ⟨g_blind, va_recv hK hP hcl he, fun U hU hW => k_pc hK hP hD hS hA hE isC hC hnd hU hW⟩ rfl hnA hsz hst (lv_room hW) hdg hcells) hS (fun q _ h => hF q h) hF (fun u t H1 locs1 ht hvm hw hB hz1 hk1 hS1 => ?_)
  obtain ⟨hP1, -, hD1⟩ := hB
  rw [ht] at hP1
  obtain ⟨hP2, hD2⟩ := kjoin (ws' := ws') hP hD isC isR hC hC2 hR nw hln hk hk1 hF hP1 hD1
  exact kk H1 locs1 hP2 hD2 hS1
/-- a static call that needs no cell -/
theorem kSi {t : FieldType} {r : Int32} (hx : p.tables.exec = Jvm.exec) (hb : c.code = cc) (hml : c.maxLocals = nL) (hown : s.vm.findClass own = some m.cls) (hts : ∀ w ∈ tb, w.before args s = true) (hM : MetI l y bytes maxL t rm As G ty e [] [] H.size r) (hg : GoodIn tb (va_wsS own index y (.code y bytes maxL (some t) :: tb))) (hc0 : rm.cells = 0) (hs0 : rm.slots = 0)
    (hd : y.cls ≠ "java/lang/invoke/MethodHandle" ∧ y.cls ≠ "java/lang/invoke/VarHandle" ∧ (parseMethodDescriptor y.desc).map (fun d => d.parameters.length) = some n) (hRm : rm.frames + 1 ≤ R.frames ∧ 8 + (maxL + 11) + rm.locals ≤ R.locals)
    (hK : va_K G vwCl ty s) (hP : va_P G vwCl ws H) (hD : va_D A ws) (hS : va_S A s.heap H locs) (hA : ∀ q : Nat, s.heap.size ≤ q → A q) (hE : Ev e A s s.heap)
    (hnA : As.length = n) (hst : st0 = As.reverse ++ rest) (hsz : ls.size = nL) (hW : (rest.map fun v => v.category).sum ≤ 8) (hcells : cells + 0 ≤ R.cells ∧ slots + 0 ≤ R.slots) (hdg : decode cc pc = .ok (.invokestatic index, 3))
    (kk : ∀ (H1 : Heap) (locs1 : List Loc), va_P G vwCl ws H1 → va_D A ws → va_S A s.heap H1 locs1 → W p l ev R s m args below meth c H1 locs1 cells slots Q (F0 m (pc + 3) ls (.int r :: rest))) : W p l ev R s m args below meth c H locs cells slots Q (F0 m pc ls st0) := by
  have hF := va_free (wc := []) hD hS hA [] rfl
  refine va_calli (va_runS (As := As) (rest := rest) ⟨hx, hb, hml, hown, hts⟩ hM (va_cwS n hts hg rfl hc0 hs0 hd hRm) ⟨g_blind, fun U hU hW => k_pc hK hP hD hS hA hE [] rfl rfl hU hW⟩ rfl hnA hsz hst (lv_room hW) hdg hcells) hS (fun q _ h => hF q h) hF (fun rr u t H1 locs1 ht hvm hw hB hz1 hk1 hS1 => ?_)
  subst hw
  refine kk H1 locs1 (hP.kept (fun k q hq => hk1 q.1 (hP k q hq).lt (fun h => ?_))) hD hS1
  rcases h with ⟨k, e2, h⟩ | h
  · cases h
  · have := (hP k q hq).lt
    omega
/-- a static call that answers nothing, over cells -/
theorem kSv (hx : p.tables.exec = Jvm.exec) (hb : c.code = cc) (hml : c.maxLocals = nL) (hown : s.vm.findClass own = some m.cls) (hts : ∀ w ∈ tb, w.before args s = true) (hM : MetV l y bytes maxL rm As G ty e wc w1 H.size) (hg : GoodIn tb (va_wsS own index y (.code y bytes maxL none :: tb))) (hc0 : rm.cells = 0) (hs0 : rm.slots = 0)
    (hd : y.cls ≠ "java/lang/invoke/MethodHandle" ∧ y.cls ≠ "java/lang/invoke/VarHandle" ∧ (parseMethodDescriptor y.desc).map (fun d => d.parameters.length) = some n) (hRm : rm.frames + 1 ≤ R.frames ∧ 8 + (maxL + 11) + rm.locals ≤ R.locals)
    (hK : va_K G vwCl ty s) (hP : va_P G vwCl ws H) (hD : va_D A ws) (hS : va_S A s.heap H locs) (hA : ∀ q : Nat, s.heap.size ≤ q → A q) (hE : Ev e A s s.heap)
    (isC isR : List Nat) (hC : isC.map (fun i => ws[i]?) = wc.map some) (hC2 : isC.map (fun i => ws'[i]?) = w1.map some) (hR : isR.map (fun i => ws'[i]?) = (isR.filterMap (fun i => ws[i]?)).map some) (nw : Nat) (hln : ws'.length = nw ∧ ws.length = nw) (hk : kOk nw isC isR = true) (hnd : va_nd isC = true)
    (hnA : As.length = n) (hst : st0 = As.reverse ++ rest) (hsz : ls.size = nL) (hW : (rest.map fun v => v.category).sum ≤ 8) (hcells : cells + 0 ≤ R.cells ∧ slots + 0 ≤ R.slots) (hdg : decode cc pc = .ok (.invokestatic index, 3))
    (kk : ∀ (H1 : Heap) (locs1 : List Loc), va_P G vwCl ws' H1 → va_D A ws' → va_S A s.heap H1 locs1 → W p l ev R s m args below meth c H1 locs1 cells slots Q (F0 m (pc + 3) ls rest)) : W p l ev R s m args below meth c H locs cells slots Q (F0 m pc ls st0) := by
  have hF := va_free (wc := wc) hD hS hA isC hC
  refine va_callv (va_runS (As := As) (rest := rest) ⟨hx, hb, hml, hown, hts⟩ hM (va_cwS n hts hg rfl hc0 hs0 hd hRm) ⟨g_blind, fun U hU hW => k_pc hK hP hD hS hA hE isC hC hnd hU hW⟩ rfl hnA hsz hst (lv_room hW) hdg hcells) hS (fun q _ h => hF q h) hF (fun u t H1 locs1 ht hvm hw hB hz1 hk1 hS1 => ?_)
  obtain ⟨hP1, -, hD1⟩ := hB
  rw [ht] at hP1
  obtain ⟨hP2, hD2⟩ := kjoin (ws' := ws') hP hD isC isR hC hC2 hR nw hln hk hk1 hF hP1 hD1
  exact kk H1 locs1 hP2 hD2 hS1
end KR
theorem nk30 : (("ThrusterSelector", 169, "ThrusterSelector$State", "pulses", "[I", "ThrusterSelector") : String × Nat × String × String × String × String) ∈ nwF := by decide +kernel
theorem nk32 : (("ThrusterSelector", 95, "ThrusterSelector$State", "tanks", "[I", "ThrusterSelector") : String × Nat × String × String × String × String) ∈ nwF := by decide +kernel
theorem nk35 : (("ThrusterSelector", 160, "ThrusterSelector$State", "queue", "[I", "ThrusterSelector") : String × Nat × String × String × String × String) ∈ nwF := by decide +kernel
theorem nk37 : (("ThrusterSelector", 226, "ThrusterSelector$State", "impulses", "[I", "ThrusterSelector") : String × Nat × String × String × String × String) ∈ nwF := by decide +kernel
theorem nk39 : (("ThrusterSelector", 175, "ThrusterSelector$State", "sums", "[J", "ThrusterSelector") : String × Nat × String × String × String × String) ∈ nwF := by decide +kernel
theorem nk40 : (("ThrusterSelector$Selection", 38, "ThrusterSelector$State", "thrusterCount", "I", "ThrusterSelector") : String × Nat × String × String × String × String) ∈ nwF := by decide +kernel
theorem nk41 : (("ThrusterSelector", 51, "ThrusterSelector$State", "thrusterCount", "I", "ThrusterSelector") : String × Nat × String × String × String × String) ∈ nwF := by decide +kernel
theorem nk44 : (("ThrusterSelector", 109, "ThrusterSelector$State", "setCount", "I", "ThrusterSelector") : String × Nat × String × String × String × String) ∈ nwF := by decide +kernel
theorem nk46 : (("ThrusterSelector", 157, "ThrusterSelector$State", "requestCount", "I", "ThrusterSelector") : String × Nat × String × String × String × String) ∈ nwF := by decide +kernel
theorem nk48 : (("ThrusterSelector", 166, "ThrusterSelector$State", "cycleNumber", "I", "ThrusterSelector") : String × Nat × String × String × String × String) ∈ nwF := by decide +kernel
theorem nk89 : (("ThrusterSelector", 193, "ThrusterSelector$History", "count", "I", "ThrusterSelector") : String × Nat × String × String × String × String) ∈ nwF := by decide +kernel
theorem nk111 : (("ThrusterSelector", 136, "ThrusterSelector$Selection", "mask", "I", "ThrusterSelector") : String × Nat × String × String × String × String) ∈ nwF := by decide +kernel
theorem nk114 : (("ThrusterSelector", 132, "ThrusterSelector$Selection", "found", "Z", "ThrusterSelector") : String × Nat × String × String × String × String) ∈ nwF := by decide +kernel
theorem nk141 : (("ThrusterSelector", 211, "ThrusterSelector$Text", "parts", "[I", "ThrusterSelector") : String × Nat × String × String × String × String) ∈ nwF := by decide +kernel
theorem nk143 : (("ThrusterSelector", 214, "ThrusterSelector$Text", "urgent", "[Z", "ThrusterSelector") : String × Nat × String × String × String × String) ∈ nwF := by decide +kernel
theorem nk146 : (("ThrusterSelector", 208, "ThrusterSelector$Text", "readCount", "I", "ThrusterSelector") : String × Nat × String × String × String × String) ∈ nwF := by decide +kernel
theorem nk253 : (("ThrusterSelector$State", 71, "ThrusterSelector", "DIRECTION_X", "[I", "ThrusterSelector") : String × Nat × String × String × String × String) ∈ nwF := by decide +kernel
theorem nk255 : (("ThrusterSelector$State", 74, "ThrusterSelector", "DIRECTION_Y", "[I", "ThrusterSelector") : String × Nat × String × String × String × String) ∈ nwF := by decide +kernel

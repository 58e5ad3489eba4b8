/-! THE HEAP AS FUNCTIONS: what the program's cells hold, by address; 'ty' says of each address what lies there -/
abbrev xTy : Type := Nat → Option (Nat × Nat)
abbrev xH : Type := (Nat → Nat → Int32) × (Nat → Nat → Option Nat) × (Nat → Nat → Int32) × (Nat → Nat → Option Nat) × (Nat → Nat → Int64)
abbrev xD : Type := va_G × (ClassId × ClassId × ClassId × ClassId)
/-- an int field, a reference field, an array's int, an array's reference, a long field or an array's long -/
def xI (h : xH) (q k : Nat) : Int32 := h.1 q k
def xR (h : xH) (q k : Nat) : Option Nat := h.2.1 q k
def xA (h : xH) (q k : Nat) : Int32 := h.2.2.1 q k
def xP (h : xH) (q k : Nat) : Option Nat := h.2.2.2.1 q k
def xJ (h : xH) (q k : Nat) : Int64 := h.2.2.2.2 q k
def xup {α : Type} (f : Nat → Nat → α) (q k : Nat) (v : α) : Nat → Nat → α := fun a b => if a = q ∧ b = k then v else f a b
def xsI (h : xH) (q k : Nat) (v : Int32) : xH := (xup h.1 q k v, h.2.1, h.2.2.1, h.2.2.2.1, h.2.2.2.2)
def xsR (h : xH) (q k : Nat) (v : Option Nat) : xH := (h.1, xup h.2.1 q k v, h.2.2.1, h.2.2.2.1, h.2.2.2.2)
def xsA (h : xH) (q k : Nat) (v : Int32) : xH := (h.1, h.2.1, xup h.2.2.1 q k v, h.2.2.2.1, h.2.2.2.2)
def xsP (h : xH) (q k : Nat) (v : Option Nat) : xH := (h.1, h.2.1, h.2.2.1, xup h.2.2.2.1 q k v, h.2.2.2.2)
def xsJ (h : xH) (q k : Nat) (v : Int64) : xH := (h.1, h.2.1, h.2.2.1, h.2.2.2.1, xup h.2.2.2.2 q k v)
theorem xup_same {α : Type} (f : Nat → Nat → α) (q k : Nat) (v : α) : xup f q k v q k = v := by simp [xup]
theorem xup_ne {α : Type} (f : Nat → Nat → α) {q k a b : Nat} (v : α) (h : a ≠ q ∨ b ≠ k) : xup f q k v a b = f a b := by
  unfold xup
  rw [if_neg]
  rintro ⟨h1, h2⟩
  rcases h with h | h
  · exact h h1
  · exact h h2
def xcl : List vw_C := [(RX0, TX0, 10), (RX1, TX1, 1), (RX2, TX2, 4), (RX3, TX3, 1), (RX4, TX4, 5), (RX5, TX5, 5), (RX6, TX6, 5), (RX7, TX7, 3), (RX8, TX8, 8), (RX9, TX9, 7), (RX10, TX10, 15), (RX11, TX11, 16), (RX12, TX12, 60)]
def xty (c : Nat) : Nat → FieldType := match c with
  | 0 => tyX0
  | 1 => tyX1
  | 2 => tyX2
  | 3 => tyX3
  | 4 => tyX4
  | 5 => tyX5
  | 6 => tyX6
  | 7 => tyX7
  | 8 => tyX8
  | 9 => tyX9
  | 10 => tyX10
  | 11 => tyX11
  | _ => tyX12
def xval (t : FieldType) (h : xH) (q k : Nat) : Value := match t with
  | .int => .int (xI h q k)
  | .boolean => .int (xI h q k)
  | .long => .long (xJ h q k)
  | _ => va_rf (xR h q k)
/-- kinds: 0 an object of a class, 1 ints, 2 booleans, 3 terms, else longs (with their length) -/
def xAt (D : xD) (h : xH) (q : Nat) (t : Nat × Nat) (H : Heap) : Prop := match t.1 with
  | 0 => ∃ r : vw_C, xcl[t.2]? = some r ∧ t_OB q (D.1.1 t.2) r.2.2 (D.1.2 t.2) H (fun k => xval (xty t.2 k) h q k)
  | 1 => H[q]? = some (arrV D.2.1 t.2 (fun j => .int (xA h q j)))
  | 2 => H[q]? = some (arrV D.2.2.1 t.2 (fun j => .int (xA h q j)))
  | 3 => H[q]? = some (arrV D.2.2.2.1 t.2 (fun j => va_rf (xP h q j)))
  | _ => H[q]? = some (arrV D.2.2.2.2 t.2 (fun j => .long (xJ h q j)))
def xRep (D : xD) (ty : xTy) (h : xH) (H : Heap) : Prop := ∀ (q : Nat) (t : Nat × Nat), ty q = some t → xAt D h q t H
def xtys (D : xD) : List (ClassId × FieldType) := [(D.2.1, .int), (D.2.2.1, .boolean), (D.2.2.2.1, .object RX7), (D.2.2.2.2, .long)]
def xT : List Cond := lw_tbl.filter goodWord
def xisN : Cond → Bool
  | .methodLinkNest _ _ _ _ => true
  | _ => false
def xNest : List Cond := lw_tbl.filter xisN
theorem xin {w : Cond} (i : Nat) (h : lw_tbl[i]? = some w) (g : goodWord w = true) : w ∈ xT := List.mem_filter.mpr ⟨List.mem_of_getElem? h, g⟩
theorem xinN {w : Cond} (i : Nat) (h : lw_tbl[i]? = some w) (g : xisN w = true) : w ∈ xNest := List.mem_filter.mpr ⟨List.mem_of_getElem? h, g⟩
def xK (D : xD) (U : State) : Prop := va_K D.1 xcl (xtys D) U ∧ ∀ w ∈ xNest, va_Nw w U
theorem xK.same {D : xD} {u U : State} (h : u.vm = U.vm) (k : xK D u) : xK D U := by
  refine ⟨va_K.moved (by rw [h]; exact Vm.Alike.refl _) k.1, fun w hw => ?_⟩
  have h2 := k.2 w hw
  obtain ⟨-, h3⟩ := List.mem_filter.mp hw
  cases w <;> first | (exact va_Nw.same rfl h h2) | (cases h3)
theorem xK.warm {D : xD} {s U : State} (hW : s.WarmedH U.vm) (k : xK D s) : xK D U := by
  refine ⟨va_K.moved hW.alike k.1, fun w hw => ?_⟩
  have h2 := k.2 w hw
  obtain ⟨-, h3⟩ := List.mem_filter.mp hw
  cases w <;> first | (exact va_Nw.warmM hW h2) | (cases h3)
def xdom (ty : xTy) : Nat → Prop := fun q => ty q ≠ none
/-- since H0 only cells of 'ty' have changed, none has come -/
def xS (ty : xTy) (H0 H : Heap) (locs : List Loc) : Prop := H.size = H0.size ∧ (∀ q : Nat, ty q = none → H[q]? = H0[q]?) ∧ ∀ l ∈ locs, xdom ty l.base
theorem xS.rf {ty : xTy} {H0 : Heap} : xS ty H0 H0 [] := ⟨rfl, fun _ _ => rfl, fun _ h => by cases h⟩
theorem xS.put {ty : xTy} {H0 H H1 : Heap} {locs : List Loc} {a k : Nat} (h : xS ty H0 H locs) (z : H1.size = H.size) (oq : ∀ q : Nat, q ≠ a → H1[q]? = H[q]?) (ha : xdom ty a) : xS ty H0 H1 (locs ++ [⟨a, k⟩]) := by
  refine ⟨z.trans h.1, fun q h1 => ?_, fun q hq => ?_⟩
  · rw [oq q (fun e => ha (by rw [← e]; exact h1))]
    exact h.2.1 q h1
  · rcases List.mem_append.mp hq with h1 | h1
    · exact h.2.2 q h1
    · rw [List.mem_singleton.mp h1]
      exact ha
theorem xAt.kept {D : xD} {h h1 : xH} {q : Nat} {t : Nat × Nat} {H H1 : Heap} (a : xAt D h q t H) (hq : H1[q]? = H[q]?) (hh : ∀ k, h1.1 q k = h.1 q k ∧ h1.2.1 q k = h.2.1 q k ∧ h1.2.2.1 q k = h.2.2.1 q k ∧ h1.2.2.2.1 q k = h.2.2.2.1 q k ∧ h1.2.2.2.2 q k = h.2.2.2.2 q k) : xAt D h1 q t H1 := by
  have e1 : ∀ k, xI h1 q k = xI h q k := fun k => (hh k).1
  have e2 : ∀ k, xR h1 q k = xR h q k := fun k => (hh k).2.1
  have e3 : ∀ k, xA h1 q k = xA h q k := fun k => (hh k).2.2.1
  have e4 : ∀ k, xP h1 q k = xP h q k := fun k => (hh k).2.2.2.1
  have e5 : ∀ k, xJ h1 q k = xJ h q k := fun k => (hh k).2.2.2.2
  obtain ⟨t1, t2⟩ := t
  unfold xAt at a ⊢
  dsimp only at a ⊢
  split
  · obtain ⟨r, h1, h2⟩ := a
    refine ⟨r, h1, ?_⟩
    have h3 := h2.kept hq
    refine t_OB.to h3 (fun k _ => ?_)
    unfold xval
    split <;> simp only [e1, e2, e5]
  all_goals (simp only [e3, e4, e5]; rw [hq]; simpa using a)
/-- the program's answer: the value, the heap behind it, nothing else has changed -/
def xQ (D : xD) (ty : xTy) (v : Option Value) (h : xH) : Array Value → State → Outcome → State → Prop := fun _ st o t =>
  o = .returned v ∧ xRep D ty h t.heap ∧ t.heap.size = st.heap.size ∧ ∀ q : Nat, ty q = none → t.heap[q]? = st.heap[q]?
def xPc (D : xD) (ty : xTy) (h : xH) (av : List Value) : Array Value → State → Prop := fun v U => v = av.toArray ∧ xRep D ty h U.heap ∧ xK D U
theorem xPc.blind {D : xD} {ty : xTy} {h : xH} {av : List Value} : FrameBlind (xPc D ty h av) := fun a U g mk q => ⟨q.1, q.2.1, xK.same (u := U) rfl q.2.2⟩
/-- what a walk stands on -/
def xC (D : xD) (own : String) (cc : ByteArray) (nL : Nat) (rt : Option FieldType) (p : Program) (s : State) (m : MethodId) (args : Array Value) (meth : Method) (c : Code) : Prop :=
  p.tables.exec = Jvm.exec ∧ c.code = cc ∧ c.maxLocals = nL ∧ meth.sig.returnType = rt ∧ meth.locks = false ∧ s.vm.findClass own = some m.cls ∧ (∀ w ∈ xT, w.before args s = true) ∧ xK D s
/-! the words of the program's own functions over the heap -/
def xck (ty : xTy) (a ci : Nat) : Option Unit := if ty a = some (0, ci) then some () else none
def xgo (ty : xTy) (h : xH) (q k ci : Nat) : Option Nat := match xR h q k with
  | some a => if ty a = some (0, ci) then some a else none
  | none => none
def xinr (i : Int32) (n : Nat) : Prop := ¬ (i < 0 ∨ n ≤ i.toNatClampNeg)
theorem xinr_dec (i : Int32) (n : Nat) : xinr i n ∨ ¬ xinr i n := Classical.em _
def xok (i : Int32) (n : Nat) : Bool := !(decide (i < 0)) && decide (i.toNatClampNeg < n)
theorem xok_in {i : Int32} {n : Nat} (h : xok i n = true) : vp_in i n := by
  unfold xok at h
  unfold vp_in
  simp at h
  rintro (q | q)
  · exact absurd q (Int32.not_lt.mpr h.1)
  · omega
/-- kind kd: ints or booleans -/
def xga (kd : Nat) (ty : xTy) (h : xH) (a : Nat) (i : Int32) : Option Int32 := match ty a with
  | some (kx, n) => if kx = kd ∧ xok i n = true then some (xA h a i.toNatClampNeg) else none
  | none => none
def xgp (ty : xTy) (h : xH) (a : Nat) (i : Int32) (ci : Nat) : Option Nat := match ty a with
  | some (kx, n) => if kx = 3 ∧ xok i n = true then (match xP h a i.toNatClampNeg with
    | some b => if ty b = some (0, ci) then some b else none
    | none => none) else none
  | none => none
def xwa (kd : Nat) (ty : xTy) (h : xH) (a : Nat) (i v : Int32) : Option xH := match ty a with
  | some (kx, n) => if kx = kd ∧ xok i n = true then some (xsA h a i.toNatClampNeg v) else none
  | none => none
def xwp (ty : xTy) (h : xH) (a : Nat) (i : Int32) (b : Nat) : Option xH := match ty a with
  | some (kx, n) => if kx = 3 ∧ xok i n = true then some (xsP h a i.toNatClampNeg (some b)) else none
  | none => none
def xlen (kd : Nat) (ty : xTy) (a : Nat) : Option Int32 := match ty a with
  | some (kx, n) => if kx = kd then some (Int32.ofNat n) else none
  | none => none
/-- a boolean answer -/
def xz (v : Int32) : Option Int32 := if v = 0 ∨ v = 1 then some v else none
def xdv (x y : Int32) : Option Int32 := if y = 0 then none else some (x / y)
def xrm (x y : Int32) : Option Int32 := if y = 0 then none else some (x - x / y * y)
def xdl (x y : Int64) : Option Int64 := if y = 0 then none else some (x / y)
def xrl (x y : Int64) : Option Int64 := if y = 0 then none else some (x - x / y * y)
def xb2 {α β γ : Type} (x : Option (α × β)) (f : α → β → Option γ) : Option γ := match x with
  | some (a, b) => f a b
  | none => none
theorem xbd {α β : Type} {x : Option α} {f : α → Option β} {r : β} (h : x.bind f = some r) : ∃ a, x = some a ∧ f a = some r := by
  cases x with
  | none => cases h
  | some a => exact ⟨a, rfl, h⟩
theorem xbd2 {α β γ : Type} {x : Option (α × β)} {f : α → β → Option γ} {r : γ} (h : xb2 x f = some r) : ∃ a b, x = some (a, b) ∧ f a b = some r := by
  rcases x with _ | ⟨a, b⟩
  · cases h
  · exact ⟨a, b, rfl, h⟩
theorem xif {α : Type} {c : Prop} {_ : Decidable c} {a b : Option α} {r : α} (h : (if c then a else b) = some r) (hc : c) : a = some r := by rwa [if_pos hc] at h
theorem xel {α : Type} {c : Prop} {_ : Decidable c} {a b : Option α} {r : α} (h : (if c then a else b) = some r) (hc : ¬ c) : b = some r := by rwa [if_neg hc] at h
theorem xz_sp {v w : Int32} (h : xz v = some w) : w = v ∧ narrow .boolean (.int v) = .int v := by
  unfold xz at h
  split at h
  · cases h
    rename_i q
    rcases q with rfl | rfl
    · exact ⟨rfl, by decide⟩
    · exact ⟨rfl, by decide⟩
  · cases h
theorem xdv_sp {x y a : Int32} (h : xdv x y = some a) : ¬ y = 0 ∧ a = x / y := by
  unfold xdv at h
  split at h
  · cases h
  · rename_i q
    cases h
    exact ⟨q, rfl⟩
theorem xrm_sp {x y a : Int32} (h : xrm x y = some a) : ¬ y = 0 ∧ a = x - x / y * y := by
  unfold xrm at h
  split at h
  · cases h
  · rename_i q
    cases h
    exact ⟨q, rfl⟩
theorem xdl_sp {x y a : Int64} (h : xdl x y = some a) : ¬ y = 0 ∧ a = x / y := by
  unfold xdl at h
  split at h
  · cases h
  · rename_i q
    cases h
    exact ⟨q, rfl⟩
theorem xrl_sp {x y a : Int64} (h : xrl x y = some a) : ¬ y = 0 ∧ a = x - x / y * y := by
  unfold xrl at h
  split at h
  · cases h
  · rename_i q
    cases h
    exact ⟨q, rfl⟩
theorem xgo_sp {ty : xTy} {h : xH} {q k ci a : Nat} (g : xgo ty h q k ci = some a) : xR h q k = some a ∧ ty a = some (0, ci) := by
  unfold xgo at g
  split at g
  · rename_i b hb
    split at g
    · rename_i hz
      cases g
      exact ⟨hb, hz⟩
    · cases g
  · cases g
theorem xck_sp {ty : xTy} {a ci : Nat} {u : Unit} (g : xck ty a ci = some u) : ty a = some (0, ci) := by
  unfold xck at g
  split at g
  · assumption
  · cases g
theorem xinL {ws : List Cond} (ps : List Nat) (hp : ws = ps.filterMap (fun i => lw_tbl[i]?)) (h : ws.all goodWord = true) : ∀ w ∈ ws, w ∈ xT := by
  intro w hw
  have h1 := List.all_eq_true.mp h w hw
  rw [hp] at hw
  obtain ⟨i, -, hi⟩ := List.mem_filterMap.mp hw
  exact xin i hi h1
def xmin (x y : Int32) : Int32 := if y < x then y else x
def xmax (x y : Int32) : Int32 := if x < y then y else x
def xabs (x : Int32) : Int32 := if 0 ≤ x then x else 0 - x
def xush (x y : Int32) : Int32 := (x.toUInt32 >>> (y.toUInt32 &&& Int32.toUInt32 31)).toInt32
/-- what a loop answers: with all turns from some number on -/
noncomputable def xlim {β : Type} (f : Nat → Option β) : Option β :=
  @dite _ (∃ r, ∃ N, ∀ n, N ≤ n → f n = some r) (Classical.propDecidable _) (fun h => some (Classical.choose h)) (fun _ => none)
theorem xlim_sp {β : Type} {f : Nat → Option β} {r : β} (h : xlim f = some r) : ∃ n, f n = some r := by
  unfold xlim at h
  split at h
  · rename_i q
    obtain ⟨N, hN⟩ := Classical.choose_spec q
    refine ⟨N, ?_⟩
    rw [hN N (Nat.le_refl _)]
    exact h
  · cases h
theorem xlim_of {β : Type} {f : Nat → Option β} {r : β} (N : Nat) (h : ∀ n, N ≤ n → f n = some r) : xlim f = some r := by
  unfold xlim
  have q : ∃ r, ∃ N, ∀ n, N ≤ n → f n = some r := ⟨r, N, h⟩
  rw [dif_pos q]
  obtain ⟨N2, h2⟩ := Classical.choose_spec q
  have e1 := h (max N N2) (Nat.le_max_left _ _)
  have e2 := h2 (max N N2) (Nat.le_max_right _ _)
  rw [← e2, e1]

/-! CELLS THAT COME: fields, rows, constructors that are called -/
section GROWP
variable {p : Program} {l : Launch} {e : Env} {R : Room} {s : State} {m : MethodId} {args : Array Value} {below : List Frame} {meth : Method} {c : Code} {H H0 : Heap} {locs : List Loc} {cells slots : Nat} {Q : State → Prop}
variable {cc : ByteArray} {nL pc : Nat} {rt : Option FieldType} {own : String} {ls : Array Slot} {rest : List Value} {D : xD} {ty : xTy} {h : xH} {a : Nat}
theorem x_putF (C0 : xC D own cc nL rt p s m args meth c) (hR : xRep D ty h H) (hS0 : xS ty H0 H locs) {ci k index N : Nat} {Cn : String} {T : u_T} {v : Value} {h1 : xH} (hc : xcl[ci]? = some (Cn, T, N)) (hin : ∀ w ∈ u_ws Cn T N, w ∈ xT) (ty0 : Nat → FieldType) (hty : ∀ k, k < N → parseFieldDescriptor (T k).2.2.1 = some (ty0 k)) (hnm : ∀ a, a < N → ∀ b, b < N → a ≠ b → (T a).2.1 ≠ (T b).2.1) (hk : k < N) (hT : (T k).1 = Cn) (hfin : (T k).2.2.2 = true) (hin2 : meth.name = "<init>") (hdecl : Cn = own)
    (hlink : Cond.fieldLink own index Cn (T k).2.1 (T k).2.2.1 ∈ xT) (hn : narrow (ty0 k) v = v) (hfit : fits (ty0 k) v = true) (ht : ty a = some (0, ci)) (hdg : decode cc pc = .ok (.putfield index, 3))
    (hval : ∀ j, j < N → updV (fun k => xval (xty ci k) h a k) k v j = xval (xty ci j) h1 a j)
    (hh : ∀ q, q ≠ a → ∀ k, h1.1 q k = h.1 q k ∧ h1.2.1 q k = h.2.1 q k ∧ h1.2.2.1 q k = h.2.2.1 q k ∧ h1.2.2.2.1 q k = h.2.2.2.1 q k ∧ h1.2.2.2.2 q k = h.2.2.2.2 q k)
    (kk : ∀ (H1 : Heap) (locs1 : List Loc), xRep D ty h1 H1 → xS ty H0 H1 locs1 → W p l e R s m args below meth c H1 locs1 cells slots Q (F0 m (pc + 3) ls rest)) : W p l e R s m args below meth c H locs cells slots Q (F0 m pc ls (v :: .ref a :: rest)) := by
  obtain ⟨hx, hb, -, -, -, hown, hts, hK, -⟩ := C0
  have hap := va_apart (own := own) hts hin ty0 hty hnm hK hc
  obtain ⟨r, h2, cell, q1, q2, q3, q4⟩ := hR a _ ht
  have hr : r = (Cn, T, N) := Option.some.inj (h2.symm.trans hc)
  subst hr
  obtain ⟨hS, hfc, kC, hkC, hkind⟩ := hK.1 ci _ hc
  obtain ⟨cf, kf, fi, f, hi, hsl⟩ := hS k hk
  have hlay := hts _ (hin _ (u_in_lay hk))
  unfold u_lay at hlay
  rw [if_pos hfin] at hlay
  have hst := (u_facts hfc hkC (u_lays hts hin hk) hi).1
  have hcf : m.cls = cf := by
    obtain ⟨_, _, c', _, _, _, -, -, hf', -, -, -, hown2, -⟩ := Cond.laysFinal_spec hlay
    have e1 : c' = cf := by have := hi.symm.trans hf'; simp at this; exact this.1.symm
    rw [hT, hdecl] at hown2
    rw [← e1]; exact Option.some.inj (hown.symm.trans hown2)
  have h6 := u_fits hfc hkC hkind (Or.inr hlay) hi (hty k hk) hn hfit
  refine W.putFinK hx hb hown (hts _ hlink) (by rw [← hT]; exact hi) hst hcf hin2 (by rw [q2]; exact h6) q1 q3 (by rw [hsl]; exact k2_hasslot (q4 k hk)) rfl rfl hdg fun H' e1 e2 e3 => ?_
  rw [hsl] at e1 ⊢
  refine kk H' _ (hR.set (fun t ht' => ?_) e3 hh) (hS0.put e2 e3 (by intro z; rw [ht] at z; cases z))
  cases ht.symm.trans ht'
  exact ⟨_, hc, t_OB.to (V := updV (fun k => xval (xty ci k) h a k) k v) ⟨_, e1, q2, q3, t_set q4 hap hk v⟩ hval⟩
theorem x_putrF (C0 : xC D own cc nL rt p s m args meth c) (hR : xRep D ty h H) (hS0 : xS ty H0 H locs) {ci k index N v : Nat} {Cn : String} {T : u_T} (hc : xcl[ci]? = some (Cn, T, N)) (hin : ∀ w ∈ u_ws Cn T N, w ∈ xT) (hty : ∀ k, k < N → parseFieldDescriptor (T k).2.2.1 = some (xty ci k)) (hnm : ∀ a, a < N → ∀ b, b < N → a ≠ b → (T a).2.1 ≠ (T b).2.1) (hk : k < N) (hT : (T k).1 = Cn) (hfin : (T k).2.2.2 = true) (hin2 : meth.name = "<init>") (hdecl : Cn = own)
    (hlink : Cond.fieldLink own index Cn (T k).2.1 (T k).2.2.1 ∈ xT) (hkd : xisR (xty ci k) = true) (ht : ty a = some (0, ci)) (hdg : decode cc pc = .ok (.putfield index, 3))
    (kk : ∀ (H1 : Heap) (locs1 : List Loc), xRep D ty (xsR h a k (some v)) H1 → xS ty H0 H1 locs1 → W p l e R s m args below meth c H1 locs1 cells slots Q (F0 m (pc + 3) ls rest)) : W p l e R s m args below meth c H locs cells slots Q (F0 m pc ls (.ref v :: .ref a :: rest)) := by
  have key : ∀ t : FieldType, xisR t = true → narrow t (.ref v) = .ref v ∧ fits t (.ref v) = true ∧ ∀ (h : xH) (q k : Nat), xval t h q k = va_rf (xR h q k) := by
    intro t z
    cases t <;> first | (cases z; done) | (exact ⟨rfl, rfl, fun _ _ _ => rfl⟩)
  obtain ⟨k1, k2, k3⟩ := key _ hkd
  refine x_putF (h1 := xsR h a k (some v)) C0 hR hS0 hc hin (xty ci) hty hnm hk hT hfin hin2 hdecl hlink k1 k2 ht hdg (fun j hj => ?_) (fun q hq j => ⟨rfl, xup_ne _ _ (Or.inl hq), rfl, rfl, rfl⟩) kk
  unfold updV
  by_cases hjk : j = k
  · subst hjk
    rw [if_pos rfl, k3]
    simp [va_rf, xR, xsR, xup]
  · rw [if_neg hjk]
    show xval (xty ci j) h a j = xval (xty ci j) (xsR h a k (some v)) a j
    generalize xty ci j = t9
    cases t9 <;> simp [xval, xI, xsR, xup, hjk, xJ, xR]
end GROWP
section GROWQ
variable {p : Program} {l : Launch} {e : Env} {R : Room} {s : State} {m : MethodId} {args : Array Value} {below : List Frame} {meth : Method} {c : Code} {H H0 : Heap} {locs : List Loc} {cells slots : Nat} {Q : State → Prop}
variable {cc : ByteArray} {nL pc : Nat} {rt : Option FieldType} {own : String} {ls : Array Slot} {rest : List Value} {D : xD} {ty : xTy} {N n n1 c1 s1 : Nat} {tR tP : List (Nat × Nat × Nat)} {tI tA : List (Nat × Nat × Int)}
theorem g_puti (C0 : xC D own cc nL rt p s m args meth c) (hG : xG D ty N n tR tI tP tA H) (hS : xL ty N n H0 H locs) {ci k index M q : Nat} {v : Int} {w : Int32} {Cn : String} {T : u_T} (hc : xcl[ci]? = some (Cn, T, M)) (hin : ∀ w ∈ u_ws Cn T M, w ∈ xT) (hty : ∀ k, k < M → parseFieldDescriptor (T k).2.2.1 = some (xty ci k)) (hnm : ∀ a, a < M → ∀ b, b < M → a ≠ b → (T a).2.1 ≠ (T b).2.1) (hk : k < M) (hT : (T k).1 = Cn) (hfin : (T k).2.2.2 = false)
    (hlink : Cond.fieldLink own index Cn (T k).2.1 (T k).2.2.1 ∈ xT) (hkd : xty ci k = .int ∨ xty ci k = .boolean) (hw : w = i32 v) (hnr : narrow (xty ci k) (.int w) = .int w) (hft : fits (xty ci k) (.int w) = true) (hq : q < n) (ht : ty (N + q) = some (0, ci)) (hdg : decode cc pc = .ok (.putfield index, 3))
    (kk : ∀ (H1 : Heap) (locs1 : List Loc), xG D ty N n tR ((q, k, v) :: tI) tP tA H1 → xL ty N n H0 H1 locs1 → W p l e R s m args below meth c H1 locs1 cells slots Q (F0 m (pc + 3) ls rest)) : W p l e R s m args below meth c H locs cells slots Q (F0 m pc ls (.int w :: .ref (N + q) :: rest)) := by
  subst hw
  refine x_puti C0 hG.2.1 (hG.S hS) hc hin hty hnm hk hT hfin hlink hkd hnr hft (by rw [tyN_lt (by omega)]; exact ht) hdg (fun H1 locs1 hR1 hS1 => ?_)
  exact kk H1 locs1 (hG.I hq hR1 hS1.1) (hG.go hS hS1)
theorem g_putr (C0 : xC D own cc nL rt p s m args meth c) (hG : xG D ty N n tR tI tP tA H) (hS : xL ty N n H0 H locs) {ci k index M q v : Nat} {Cn : String} {T : u_T} (hc : xcl[ci]? = some (Cn, T, M)) (hin : ∀ w ∈ u_ws Cn T M, w ∈ xT) (hty : ∀ k, k < M → parseFieldDescriptor (T k).2.2.1 = some (xty ci k)) (hnm : ∀ a, a < M → ∀ b, b < M → a ≠ b → (T a).2.1 ≠ (T b).2.1) (hk : k < M) (hT : (T k).1 = Cn) (hfin : (T k).2.2.2 = false)
    (hlink : Cond.fieldLink own index Cn (T k).2.1 (T k).2.2.1 ∈ xT) (hkd : xisR (xty ci k) = true) (hq : q < n) (ht : ty (N + q) = some (0, ci)) (hdg : decode cc pc = .ok (.putfield index, 3))
    (kk : ∀ (H1 : Heap) (locs1 : List Loc), xG D ty N n ((q, k, v) :: tR) tI tP tA H1 → xL ty N n H0 H1 locs1 → W p l e R s m args below meth c H1 locs1 cells slots Q (F0 m (pc + 3) ls rest)) : W p l e R s m args below meth c H locs cells slots Q (F0 m pc ls (.ref (N + v) :: .ref (N + q) :: rest)) := by
  refine x_putr C0 hG.2.1 (hG.S hS) hc hin hty hnm hk hT hfin hlink hkd (by rw [tyN_lt (by omega)]; exact ht) hdg (fun H1 locs1 hR1 hS1 => ?_)
  exact kk H1 locs1 (hG.R hq hR1 hS1.1) (hG.go hS hS1)
theorem g_putrF (C0 : xC D own cc nL rt p s m args meth c) (hG : xG D ty N n tR tI tP tA H) (hS : xL ty N n H0 H locs) {ci k index M q v : Nat} {Cn : String} {T : u_T} (hc : xcl[ci]? = some (Cn, T, M)) (hin : ∀ w ∈ u_ws Cn T M, w ∈ xT) (hty : ∀ k, k < M → parseFieldDescriptor (T k).2.2.1 = some (xty ci k)) (hnm : ∀ a, a < M → ∀ b, b < M → a ≠ b → (T a).2.1 ≠ (T b).2.1) (hk : k < M) (hT : (T k).1 = Cn) (hfin : (T k).2.2.2 = true) (hdecl : Cn = own)
    (hlink : Cond.fieldLink own index Cn (T k).2.1 (T k).2.2.1 ∈ xT) (hkd : xisR (xty ci k) = true) (hin2 : meth.name = "<init>") (hq : q < n) (ht : ty (N + q) = some (0, ci)) (hdg : decode cc pc = .ok (.putfield index, 3))
    (kk : ∀ (H1 : Heap) (locs1 : List Loc), xG D ty N n ((q, k, v) :: tR) tI tP tA H1 → xL ty N n H0 H1 locs1 → W p l e R s m args below meth c H1 locs1 cells slots Q (F0 m (pc + 3) ls rest)) : W p l e R s m args below meth c H locs cells slots Q (F0 m pc ls (.ref (N + v) :: .ref (N + q) :: rest)) := by
  refine x_putrF C0 hG.2.1 (hG.S hS) hc hin hty hnm hk hT hfin hin2 hdecl hlink hkd (by rw [tyN_lt (by omega)]; exact ht) hdg (fun H1 locs1 hR1 hS1 => ?_)
  exact kk H1 locs1 (hG.R hq hR1 hS1.1) (hG.go hS hS1)
theorem hOf_gR {q k v : Nat} (h : lkp tR q k = some v) : xR (hOf N tR tI tP tA) (N + q) k = some (N + v) := by
  show (if N ≤ N + q then _ else _) = _
  rw [if_pos (by omega), show N + q - N = q by omega, h]; rfl
theorem g_getr (C0 : xC D own cc nL rt p s m args meth c) (hG : xG D ty N n tR tI tP tA H) {ci k index M q v : Nat} {Cn : String} {T : u_T} (hc : xcl[ci]? = some (Cn, T, M)) (hin : ∀ w ∈ u_ws Cn T M, w ∈ xT) (hk : k < M) (hT : (T k).1 = Cn)
    (hlink : Cond.fieldLink own index Cn (T k).2.1 (T k).2.2.1 ∈ xT) (hkd : xisR (xty ci k) = true) (hq : q < n) (ht : ty (N + q) = some (0, ci)) (hv : lkp tR q k = some v) (hdg : decode cc pc = .ok (.getfield index, 3))
    (kk : W p l e R s m args below meth c H locs cells slots Q (F0 m (pc + 3) ls (.ref (N + v) :: rest))) : W p l e R s m args below meth c H locs cells slots Q (F0 m pc ls (.ref (N + q) :: rest)) := by
  have key : ∀ t : FieldType, xisR t = true → ∀ (h : xH) (q k : Nat), xval t h q k = va_rf (xR h q k) := by
    intro t z
    cases t <;> first | (cases z; done) | (exact fun _ _ _ => rfl)
  exact x_get C0 hG.2.1 hc hin hk hT hlink (v := .ref (N + v)) (by rw [key _ hkd, hOf_gR hv]; rfl) (by rw [tyN_lt (by omega)]; exact ht) hdg kk
theorem xok_n {j len : Nat} {w : Int32} (h0 : ¬ w < 0) (hj : w.toNatClampNeg = j) (hl : j < len) : xok w len = true := by
  unfold xok
  rw [hj]
  simp [h0, hl]
theorem g_aast (C0 : xC D own cc nL rt p s m args meth c) (hG : xG D ty N n tR tI tP tA H) (hS : xL ty N n H0 H locs) {q j v len : Nat} {w : Int32} (h0 : ¬ w < 0) (hj : w.toNatClampNeg = j) (hl : j < len) (hq : q < n) (hvn : v < n) (ht : ty (N + q) = some (3, len)) (hv : ty (N + v) = some (0, 7)) (hdg : decode cc pc = .ok (.aastore, 1))
    (kk : ∀ (H1 : Heap) (locs1 : List Loc), xG D ty N n tR tI ((q, j, v) :: tP) tA H1 → xL ty N n H0 H1 locs1 → W p l e R s m args below meth c H1 locs1 cells slots Q (F0 m (pc + 1) ls rest)) : W p l e R s m args below meth c H locs cells slots Q (F0 m pc ls (.ref (N + v) :: .int w :: .ref (N + q) :: rest)) := by
  have hw : xwp (tyN ty (N + n)) (hOf N tR tI tP tA) (N + q) w (N + v) = some (xsP (hOf N tR tI tP tA) (N + q) j (some (N + v))) := by
    unfold xwp
    rw [tyN_lt (by omega), ht]
    simp only
    rw [if_pos ⟨trivial, xok_n h0 hj hl⟩, hj]
  refine x_ast C0 hG.2.1 (hG.S hS) (by rw [tyN_lt (by omega)]; exact hv) hw hdg (fun H1 locs1 hR1 hS1 => ?_)
  exact kk H1 locs1 (hG.P hq hR1 hS1.1) (hG.go hS hS1)
theorem g_iast (C0 : xC D own cc nL rt p s m args meth c) (hG : xG D ty N n tR tI tP tA H) (hS : xL ty N n H0 H locs) {q j len : Nat} {v : Int} {w u : Int32} (h0 : ¬ w < 0) (hj : w.toNatClampNeg = j) (hl : j < len) (hu : u = i32 v) (hq : q < n) (ht : ty (N + q) = some (1, len)) (hdg : decode cc pc = .ok (.iastore, 1))
    (kk : ∀ (H1 : Heap) (locs1 : List Loc), xG D ty N n tR tI tP ((q, j, v) :: tA) H1 → xL ty N n H0 H1 locs1 → W p l e R s m args below meth c H1 locs1 cells slots Q (F0 m (pc + 1) ls rest)) : W p l e R s m args below meth c H locs cells slots Q (F0 m pc ls (.int u :: .int w :: .ref (N + q) :: rest)) := by
  subst hu
  have hw : xwa 1 (tyN ty (N + n)) (hOf N tR tI tP tA) (N + q) w (i32 v) = some (xsA (hOf N tR tI tP tA) (N + q) j (i32 v)) := by
    unfold xwa
    rw [tyN_lt (by omega), ht]
    simp only
    rw [if_pos ⟨trivial, xok_n h0 hj hl⟩, hj]
  refine x_iast C0 hG.2.1 (hG.S hS) hw hdg (fun H1 locs1 hR1 hS1 => ?_)
  exact kk H1 locs1 (hG.A hq hR1 hS1.1) (hG.go hS hS1)
theorem g_obj (C0 : xC D own cc nL rt p s m args meth c) {index : Nat} (hl : Cond.methodLink own index Lib.objectInit ∈ xT) (hsz : ls.size = nL) (h1 : 1 ≤ R.frames) (h2 : (rest.map fun v => v.category).sum + 12 ≤ R.locals) {q : Nat} (hdg : decode cc pc = .ok (.invokespecial index, 3))
    (kk : W p l e R s m args below meth c H locs cells slots Q (F0 m (pc + 3) ls rest)) : W p l e R s m args below meth c H locs cells slots Q (F0 m pc ls (.ref q :: rest)) := by
  obtain ⟨hx, hb, hml, -, -, hown, hts, hK, -⟩ := C0
  exact W.objInit hx hb hown (hts _ hl) (hts _ wO_i) (hts _ wO_c) rfl (by rw [hml]; exact hsz) rfl hdg h1 (by show 2 * 0 + _ + 12 ≤ _; omega) kk
def xPn (D : xD) (ty : xTy) (N n : Nat) (r : List (Nat × Nat × Nat)) (i : List (Nat × Nat × Int)) (p : List (Nat × Nat × Nat)) (a : List (Nat × Nat × Int)) (av : List Value) : Array Value → State → Prop := fun v U => v = av.toArray ∧ xG D ty N n r i p a U.heap ∧ xK D U ∧ va_AO RX7 U
def xQn (D : xD) (ty : xTy) (N n : Nat) (r : List (Nat × Nat × Nat)) (i : List (Nat × Nat × Int)) (p : List (Nat × Nat × Nat)) (a : List (Nat × Nat × Int)) : Array Value → State → Outcome → State → Prop := fun _ st o t => o = .returned none ∧ xG D ty N n r i p a t.heap ∧ ∀ q : Nat, q < N → t.heap[q]? = st.heap[q]?
theorem xPn.blind {av : List Value} : FrameBlind (xPn D ty N n tR tI tP tA av) := fun a U g mk q => ⟨q.1, q.2.1, xK.same (u := U) rfl q.2.2.1, va_AO.moved (u := U) (U := U.calling g mk a) (Vm.Alike.refl U.vm) q.2.2.2⟩
variable {y : MethodName} {bytes : ByteArray} {maxL mc ms n2 c2 s2 index b k : Nat} {rm : Room} {As st0 : List Value} {tR2 tP2 : List (Nat × Nat × Nat)} {tI2 tA2 : List (Nat × Nat × Int)}
theorem g_back (hnn : n ≤ n2) (hc2 : c2 = cells + mc) (hs2 : s2 = slots + ms) (hr : va_Run p l e R s m args below meth c H locs cells slots mc ms (F0 m pc ls st0) rest (xQn D ty N n2 tR2 tI2 tP2 tA2 #[]) (xdom (tyN ty (N + n2)))) (hS : xL ty N n H0 H locs)
    (kk : ∀ (H1 : Heap) (locs1 : List Loc), xG D ty N n2 tR2 tI2 tP2 tA2 H1 → xL ty N n2 H0 H1 locs1 → W p l e R s m args below meth c H1 locs1 c2 s2 Q (F0 m (pc + 3) ls rest)) : W p l e R s m args below meth c H locs cells slots Q (F0 m pc ls st0) := by
  subst hc2; subst hs2
  intro T hT X
  obtain ⟨v', st₀, t, T', L, z0, X', hL, e1, e2, hq, st⟩ := hr T hT X
  obtain ⟨q1, q2, q3⟩ := hq
  cases q1
  have hS2 := hS.up (n1 := n2) (H1 := H) hnn (fun _ _ => rfl)
  obtain ⟨t2, a1, b1⟩ := kk T'.heap (locs ++ L) (by rw [e1]; exact q2) ⟨fun q hq => by rw [e1, q3 q hq, z0]; exact hS.1 q hq, fun q hq => by
      rcases List.mem_append.mp hq with h | h
      · exact hS2.2 q h
      · exact hL q h⟩ T' rfl X'
  exact ⟨t2, st t2 a1, b1⟩
theorem g_ctor (C0 : xC D own cc nL rt p s m args meth c) (hAO : va_AO RX7 s) (hM : Met l y (xws y bytes maxL none) rm (xPn D ty N n tR tI tP tA (.ref b :: As)) (xQn D ty N n2 tR2 tI2 tP2 tA2) mc ms (xdom (tyN ty (N + n2)))) (hm : xMw y bytes maxL none k) (hi : Cond.instanceMethod y ∈ xT) (hy : y.name = "<init>") (hl : Cond.methodLink own index y ∈ xT)
    (hrm : rm.cells = mc ∧ rm.slots = ms ∧ rm.frames + 1 ≤ R.frames ∧ 8 + (maxL + 11) + rm.locals ≤ R.locals) (hG : xG D ty N n tR tI tP tA H) (hS : xL ty N n H0 H locs) (hnn : n ≤ n2) (hc2 : c2 = cells + mc) (hs2 : s2 = slots + ms)
    (hn : As.length = k) (hsz : ls.size = nL) (hst : st0 = As.reverse ++ .ref b :: rest) (hW : (rest.map fun v => v.category).sum ≤ 8) (hf : c2 ≤ R.cells ∧ s2 ≤ R.slots) (hdg : decode cc pc = .ok (.invokespecial index, 3))
    (kk : ∀ (H1 : Heap) (locs1 : List Loc), xG D ty N n2 tR2 tI2 tP2 tA2 H1 → xL ty N n2 H0 H1 locs1 → W p l e R s m args below meth c H1 locs1 c2 s2 Q (F0 m (pc + 3) ls rest)) : W p l e R s m args below meth c H locs cells slots Q (F0 m pc ls st0) := by
  obtain ⟨hx, hb, hml, -, -, hown, hts, hK⟩ := C0
  exact g_back hnn hc2 hs2 (va_runI (Ts := xT) (own := own) (As := As) (rest := rest) ⟨hx, hb, hml, hown, hts⟩ hM ⟨callB_of k hts (xGood hm) rfl hrm.1 hrm.2.1 (hts _ hm.2.1) (hts _ hl) hm.2.2 hrm.2.2, hy, hts _ hi⟩ ⟨xPn.blind, fun U hU hW => ⟨rfl, by rw [hU]; exact hG, xK.warm hW hK, va_AO.moved hW.alike hAO⟩⟩ rfl hn hsz hst (by simpa using hW) hdg (by rw [← hc2, ← hs2]; exact hf)) hS kk
theorem g_ctorN {host : String} (C0 : xC D own cc nL rt p s m args meth c) (hAO : va_AO RX7 s) (hM : Met l y (xws y bytes maxL none) rm (xPn D ty N n tR tI tP tA (.ref b :: As)) (xQn D ty N n2 tR2 tI2 tP2 tA2) mc ms (xdom (tyN ty (N + n2)))) (hm : xMw y bytes maxL none k) (hi : Cond.instanceMethod y ∈ xT) (hy : y.name = "<init>") (hl : Cond.methodLinkNest own index y host ∈ xNest)
    (hrm : rm.cells = mc ∧ rm.slots = ms ∧ rm.frames + 1 ≤ R.frames ∧ 8 + (maxL + 11) + rm.locals ≤ R.locals) (hG : xG D ty N n tR tI tP tA H) (hS : xL ty N n H0 H locs) (hnn : n ≤ n2) (hc2 : c2 = cells + mc) (hs2 : s2 = slots + ms)
    (hn : As.length = k) (hsz : ls.size = nL) (hst : st0 = As.reverse ++ .ref b :: rest) (hW : (rest.map fun v => v.category).sum ≤ 8) (hf : c2 ≤ R.cells ∧ s2 ≤ R.slots) (hdg : decode cc pc = .ok (.invokespecial index, 3))
    (kk : ∀ (H1 : Heap) (locs1 : List Loc), xG D ty N n2 tR2 tI2 tP2 tA2 H1 → xL ty N n2 H0 H1 locs1 → W p l e R s m args below meth c H1 locs1 c2 s2 Q (F0 m (pc + 3) ls rest)) : W p l e R s m args below meth c H locs cells slots Q (F0 m pc ls st0) := by
  obtain ⟨hx, hb, hml, -, -, hown, hts, hK⟩ := C0
  exact g_back hnn hc2 hs2 (va_runIN (Ts := xT) (own := own) (As := As) (rest := rest) ⟨hx, hb, hml, hown, hts⟩ hM ⟨va_cnB k hts (xGood hm) rfl hrm.1 hrm.2.1 (hK.2 _ hl) (hts _ hm.2.1) hm.2.2 hrm.2.2, hy, hts _ hi⟩ ⟨xPn.blind, fun U hU hW => ⟨rfl, by rw [hU]; exact hG, xK.warm hW hK, va_AO.moved hW.alike hAO⟩⟩ rfl hn hsz hst (by simpa using hW) hdg (by rw [← hc2, ← hs2]; exact hf)) hS kk
theorem g_met {av : List Value} (hy : plainName y.cls = true) (hyn : y.name = "<init>")
    (body : ∀ p e s m below meth c, xC D y.cls bytes maxL none p s m av.toArray meth c → meth.name = "<init>" → va_AO RX7 s → xG D ty N n tR tI tP tA s.heap → W p l e rm s m av.toArray below meth c s.heap [] 0 0 (MQ below (xQn D ty N n2 tR2 tI2 tP2 tA2) av.toArray s mc ms (xdom (tyN ty (N + n2)))) (entryFrame m av.toArray maxL)) :
    Met l y (xws y bytes maxL none) rm (xPn D ty N n tR tI tP tA av) (xQn D ty N n2 tR2 tI2 tP2 tA2) mc ms (xdom (tyN ty (N + n2))) := by
  refine Met.ofW (cc := bytes) (maxL := maxL) (ret := none) hy rfl ?_
  intro p e s m args below meth c s₁ B hml hv
  obtain ⟨rfl, hR, hK, hAO⟩ := hv
  have hts := atoms_spec (ws := xws y bytes maxL none) B.pre
  exact body p e s m below meth c ⟨B.exec, B.bytes, hml, B.returns, B.notSynchronized, findClass_of_methodNamed B.named, fun w hw => hts w (List.mem_cons_of_mem _ hw), hK⟩ (by rw [← hyn]; exact (name_of_methodNamed B.named B.method).1) hAO hR
theorem g_vret (C0 : xC D own cc nL none p s m args meth c) (hG : xG D ty N n tR tI tP tA H) (hS : xL ty N n s.heap H locs) (hdg : decode cc pc = .ok (.return_, 1)) : W p l e R s m args below meth c H locs cells slots (MQ below (xQn D ty N n tR tI tP tA) args s cells slots (xdom (tyN ty (N + n)))) (F0 m pc ls []) := by
  obtain ⟨hx, hb, -, hr, hlocks, -⟩ := C0
  exact W.vret hx hb hr (fun t ht _ => ⟨rfl, by rw [ht]; exact hG, fun q hq => by rw [ht]; exact hS.1 q hq⟩) hS.2 hdg
end GROWQ

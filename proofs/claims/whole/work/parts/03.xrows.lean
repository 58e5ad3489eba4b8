section XROW
variable {p : Program} {l : Launch} {e : Env} {R : Room} {s : State} {m : MethodId} {args : Array Value} {below : List Frame} {meth : Method} {c : Code} {H H0 : Heap} {locs : List Loc} {cells slots : Nat} {Q : State → Prop}
variable {cc : ByteArray} {nL pc : Nat} {rt : Option FieldType} {own : String} {ls : Array Slot} {rest : List Value} {D : xD} {ty : xTy} {h : xH} {a : Nat}
theorem xRep.set {h1 : xH} {H1 : Heap} (hR : xRep D ty h H) (ha : ∀ t, ty a = some t → xAt D h1 a t H1) (oq : ∀ q : Nat, q ≠ a → H1[q]? = H[q]?)
    (hh : ∀ q, q ≠ a → ∀ k, h1.1 q k = h.1 q k ∧ h1.2.1 q k = h.2.1 q k ∧ h1.2.2.1 q k = h.2.2.1 q k ∧ h1.2.2.2.1 q k = h.2.2.2.1 q k ∧ h1.2.2.2.2 q k = h.2.2.2.2 q k) : xRep D ty h1 H1 := by
  intro q t ht
  by_cases hq : q = a
  · subst hq
    exact ha t ht
  · exact (hR q t ht).kept (oq q hq) (hh q hq)
theorem x_get (C0 : xC D own cc nL rt p s m args meth c) (hR : xRep D ty h H) {ci k index N : Nat} {Cn : String} {T : u_T} {v : Value} (hc : xcl[ci]? = some (Cn, T, N)) (hin : ∀ w ∈ u_ws Cn T N, w ∈ xT) (hk : k < N) (hT : (T k).1 = Cn)
    (hlink : Cond.fieldLink own index Cn (T k).2.1 (T k).2.2.1 ∈ xT) (hv : xval (xty ci k) h a k = v) (ht : ty a = some (0, ci)) (hdg : decode cc pc = .ok (.getfield index, 3))
    (kk : W p l e R s m args below meth c H locs cells slots Q (F0 m (pc + 3) ls (v :: rest))) : W p l e R s m args below meth c H locs cells slots Q (F0 m pc ls (.ref a :: rest)) := by
  obtain ⟨hx, hb, -, -, -, hown, hts, hK, -⟩ := C0
  obtain ⟨r, h1, cell, q1, q2, q3, q4⟩ := hR a _ ht
  have hr : r = (Cn, T, N) := Option.some.inj (h1.symm.trans hc)
  subst hr
  obtain ⟨hS, hfc, kC, hkC, hkind⟩ := hK.1 ci _ hc
  obtain ⟨cf, kf, fi, f, hi, hsl⟩ := hS k hk
  refine W.getf hx hb hown (hts _ hlink) (by rw [← hT]; exact hi) (u_facts hfc hkC (u_lays hts hin hk) hi).1 q1 (by rw [q3]; exact fun h => by cases h) (v := v) ?_ rfl rfl hdg kk
  rw [hsl, q4 k hk]
  dsimp only
  rw [hv]
theorem x_put (C0 : xC D own cc nL rt p s m args meth c) (hR : xRep D ty h H) (hS0 : xS ty H0 H locs) {ci k index N : Nat} {Cn : String} {T : u_T} {v : Value} {h1 : xH} (hc : xcl[ci]? = some (Cn, T, N)) (hin : ∀ w ∈ u_ws Cn T N, w ∈ xT) (ty0 : Nat → FieldType) (hty : ∀ k, k < N → parseFieldDescriptor (T k).2.2.1 = some (ty0 k)) (hnm : ∀ a, a < N → ∀ b, b < N → a ≠ b → (T a).2.1 ≠ (T b).2.1) (hk : k < N) (hT : (T k).1 = Cn) (hfin : (T k).2.2.2 = false)
    (hlink : Cond.fieldLink own index Cn (T k).2.1 (T k).2.2.1 ∈ xT) (hn : narrow (ty0 k) v = v) (hfit : fits (ty0 k) v = true) (ht : ty a = some (0, ci)) (hdg : decode cc pc = .ok (.putfield index, 3))
    (hval : ∀ j, j < N → updV (fun k => xval (xty ci k) h a k) k v j = xval (xty ci j) h1 a j)
    (hh : ∀ q, q ≠ a → ∀ k, h1.1 q k = h.1 q k ∧ h1.2.1 q k = h.2.1 q k ∧ h1.2.2.1 q k = h.2.2.1 q k ∧ h1.2.2.2.1 q k = h.2.2.2.1 q k ∧ h1.2.2.2.2 q k = h.2.2.2.2 q k)
    (kk : ∀ (H1 : Heap) (locs1 : List Loc), xRep D ty h1 H1 → xS ty H0 H1 locs1 → W p l e R s m args below meth c H1 locs1 cells slots Q (F0 m (pc + 3) ls rest)) : W p l e R s m args below meth c H locs cells slots Q (F0 m pc ls (v :: .ref a :: rest)) := by
  obtain ⟨hx, hb, -, -, -, hown, hts, hK, -⟩ := C0
  have hap := va_apart (own := own) hts hin ty0 hty hnm hK hc
  obtain ⟨r, h2, cell, q1, q2, q3, q4⟩ := hR a _ ht
  have hr : r = (Cn, T, N) := Option.some.inj (h2.symm.trans hc)
  subst hr
  obtain ⟨hS, hfc, kC, hkC, hkind⟩ := hK.1 ci _ hc
  obtain ⟨cf, kf, fi, f, hi, hsl⟩ := hS k hk
  have hlay := hts _ (hin _ (u_in_lay hk))
  unfold u_lay at hlay
  rw [if_neg (by rw [hfin]; decide)] at hlay
  have hst := (u_facts hfc hkC (u_lays hts hin hk) hi).1
  have h6 := u_store hfc hkC hkind hlay hi (hty k hk) hn hfit
  refine W.putK hx hb (f := f) ⟨hown, hts _ hlink, ⟨_, _, _, by rw [← hT]; exact hi⟩, hst⟩ (by rw [q2]; exact h6) q1 q3 (by rw [hsl]; exact k2_hasslot (q4 k hk)) rfl rfl hdg fun H' e1 e2 e3 => ?_
  rw [hsl] at e1 ⊢
  refine kk H' _ (hR.set (fun t ht' => ?_) e3 hh) (hS0.put e2 e3 (by intro z; rw [ht] at z; cases z))
  cases ht.symm.trans ht'
  exact ⟨_, hc, t_OB.to (V := updV (fun k => xval (xty ci k) h a k) k v) ⟨_, e1, q2, q3, t_set q4 hap hk v⟩ hval⟩
theorem xother {q a : Nat} (hq : q ≠ a) (k : Nat) (v : Int32) (j : Nat) : (xsI h a k v).1 q j = h.1 q j ∧ (xsI h a k v).2.1 q j = h.2.1 q j ∧ (xsI h a k v).2.2.1 q j = h.2.2.1 q j ∧ (xsI h a k v).2.2.2.1 q j = h.2.2.2.1 q j ∧ (xsI h a k v).2.2.2.2 q j = h.2.2.2.2 q j := ⟨xup_ne _ _ (Or.inl hq), rfl, rfl, rfl, rfl⟩
theorem x_puti (C0 : xC D own cc nL rt p s m args meth c) (hR : xRep D ty h H) (hS0 : xS ty H0 H locs) {ci k index N : Nat} {Cn : String} {T : u_T} {v : Int32} (hc : xcl[ci]? = some (Cn, T, N)) (hin : ∀ w ∈ u_ws Cn T N, w ∈ xT) (hty : ∀ k, k < N → parseFieldDescriptor (T k).2.2.1 = some (xty ci k)) (hnm : ∀ a, a < N → ∀ b, b < N → a ≠ b → (T a).2.1 ≠ (T b).2.1) (hk : k < N) (hT : (T k).1 = Cn) (hfin : (T k).2.2.2 = false)
    (hlink : Cond.fieldLink own index Cn (T k).2.1 (T k).2.2.1 ∈ xT) (hkd : xty ci k = .int ∨ xty ci k = .boolean) (hn : narrow (xty ci k) (.int v) = .int v) (hft : fits (xty ci k) (.int v) = true) (ht : ty a = some (0, ci)) (hdg : decode cc pc = .ok (.putfield index, 3))
    (kk : ∀ (H1 : Heap) (locs1 : List Loc), xRep D ty (xsI h a k v) H1 → xS ty H0 H1 locs1 → W p l e R s m args below meth c H1 locs1 cells slots Q (F0 m (pc + 3) ls rest)) : W p l e R s m args below meth c H locs cells slots Q (F0 m pc ls (.int v :: .ref a :: rest)) := by
  refine x_put (h1 := xsI h a k v) C0 hR hS0 hc hin (xty ci) hty hnm hk hT hfin hlink hn hft ht hdg (fun j hj => ?_) (fun q hq j => xother hq k v j) kk
  unfold updV
  by_cases hjk : j = k
  · subst hjk
    rw [if_pos rfl]
    rcases hkd with z | z <;> rw [z] <;> simp [xval, xI, xsI, xup]
  · rw [if_neg hjk]
    show xval (xty ci j) h a j = xval (xty ci j) (xsI h a k v) a j
    generalize xty ci j = t9
    cases t9 <;> simp [xval, xI, xsI, xup, hjk, xJ, xR]
theorem x_putj (C0 : xC D own cc nL rt p s m args meth c) (hR : xRep D ty h H) (hS0 : xS ty H0 H locs) {ci k index N : Nat} {Cn : String} {T : u_T} {v : Int64} (hc : xcl[ci]? = some (Cn, T, N)) (hin : ∀ w ∈ u_ws Cn T N, w ∈ xT) (hty : ∀ k, k < N → parseFieldDescriptor (T k).2.2.1 = some (xty ci k)) (hnm : ∀ a, a < N → ∀ b, b < N → a ≠ b → (T a).2.1 ≠ (T b).2.1) (hk : k < N) (hT : (T k).1 = Cn) (hfin : (T k).2.2.2 = false)
    (hlink : Cond.fieldLink own index Cn (T k).2.1 (T k).2.2.1 ∈ xT) (hkd : xty ci k = .long) (ht : ty a = some (0, ci)) (hdg : decode cc pc = .ok (.putfield index, 3))
    (kk : ∀ (H1 : Heap) (locs1 : List Loc), xRep D ty (xsJ h a k v) H1 → xS ty H0 H1 locs1 → W p l e R s m args below meth c H1 locs1 cells slots Q (F0 m (pc + 3) ls rest)) : W p l e R s m args below meth c H locs cells slots Q (F0 m pc ls (.long v :: .ref a :: rest)) := by
  refine x_put (h1 := xsJ h a k v) C0 hR hS0 hc hin (xty ci) hty hnm hk hT hfin hlink (by rw [hkd]; rfl) (by rw [hkd]; rfl) ht hdg (fun j hj => ?_) (fun q hq j => ⟨rfl, rfl, rfl, rfl, xup_ne _ _ (Or.inl hq)⟩) kk
  unfold updV
  by_cases hjk : j = k
  · subst hjk
    rw [if_pos rfl, hkd]
    simp [xval, xJ, xsJ, xup]
  · rw [if_neg hjk]
    show xval (xty ci j) h a j = xval (xty ci j) (xsJ h a k v) a j
    generalize xty ci j = t9
    cases t9 <;> simp [xval, xI, xsJ, xup, hjk, xJ, xR]
def xisR : FieldType → Bool
  | .object _ => true
  | .array _ => true
  | _ => false
theorem x_putr (C0 : xC D own cc nL rt p s m args meth c) (hR : xRep D ty h H) (hS0 : xS ty H0 H locs) {ci k index N v : Nat} {Cn : String} {T : u_T} (hc : xcl[ci]? = some (Cn, T, N)) (hin : ∀ w ∈ u_ws Cn T N, w ∈ xT) (hty : ∀ k, k < N → parseFieldDescriptor (T k).2.2.1 = some (xty ci k)) (hnm : ∀ a, a < N → ∀ b, b < N → a ≠ b → (T a).2.1 ≠ (T b).2.1) (hk : k < N) (hT : (T k).1 = Cn) (hfin : (T k).2.2.2 = false)
    (hlink : Cond.fieldLink own index Cn (T k).2.1 (T k).2.2.1 ∈ xT) (hkd : xisR (xty ci k) = true) (ht : ty a = some (0, ci)) (hdg : decode cc pc = .ok (.putfield index, 3))
    (kk : ∀ (H1 : Heap) (locs1 : List Loc), xRep D ty (xsR h a k (some v)) H1 → xS ty H0 H1 locs1 → W p l e R s m args below meth c H1 locs1 cells slots Q (F0 m (pc + 3) ls rest)) : W p l e R s m args below meth c H locs cells slots Q (F0 m pc ls (.ref v :: .ref a :: rest)) := by
  have key : ∀ t : FieldType, xisR t = true → narrow t (.ref v) = .ref v ∧ fits t (.ref v) = true ∧ ∀ (h : xH) (q k : Nat), xval t h q k = va_rf (xR h q k) := by
    intro t z
    cases t <;> first | (cases z; done) | (exact ⟨rfl, rfl, fun _ _ _ => rfl⟩)
  obtain ⟨k1, k2, k3⟩ := key _ hkd
  refine x_put (h1 := xsR h a k (some v)) C0 hR hS0 hc hin (xty ci) hty hnm hk hT hfin hlink k1 k2 ht hdg (fun j hj => ?_) (fun q hq j => ⟨rfl, xup_ne _ _ (Or.inl hq), rfl, rfl, rfl⟩) kk
  unfold updV
  by_cases hjk : j = k
  · subst hjk
    rw [if_pos rfl, k3]
    simp [va_rf, xR, xsR, xup]
  · rw [if_neg hjk]
    show xval (xty ci j) h a j = xval (xty ci j) (xsR h a k (some v)) a j
    generalize xty ci j = t9
    cases t9 <;> simp [xval, xI, xsR, xup, hjk, xJ, xR]
theorem xga_sp {kd : Nat} {i v : Int32} (hg : xga kd ty h a i = some v) : ∃ n, ty a = some (kd, n) ∧ vp_in i n ∧ v = xA h a i.toNatClampNeg := by
  unfold xga at hg
  split at hg
  · rename_i kx n ht
    split at hg
    · rename_i hc
      cases hg
      exact ⟨n, by rw [ht, hc.1], xok_in hc.2, rfl⟩
    · cases hg
  · cases hg
theorem xwa_sp {kd : Nat} {i v : Int32} {h1 : xH} (hg : xwa kd ty h a i v = some h1) : ∃ n, ty a = some (kd, n) ∧ vp_in i n ∧ h1 = xsA h a i.toNatClampNeg v := by
  unfold xwa at hg
  split at hg
  · rename_i kx n ht
    split at hg
    · rename_i hc
      cases hg
      exact ⟨n, by rw [ht, hc.1], xok_in hc.2, rfl⟩
    · cases hg
  · cases hg
theorem x_iald (C0 : xC D own cc nL rt p s m args meth c) (hR : xRep D ty h H) {i v : Int32} (hg : xga 1 ty h a i = some v) (hdg : decode cc pc = .ok (.iaload, 1))
    (kk : W p l e R s m args below meth c H locs cells slots Q (F0 m (pc + 1) ls (.int v :: rest))) : W p l e R s m args below meth c H locs cells slots Q (F0 m pc ls (.int i :: .ref a :: rest)) := by
  obtain ⟨hx, hb, -, -, -, hown, hts, hK, -⟩ := C0
  obtain ⟨n, ht, hin, rfl⟩ := xga_sp hg
  have hlt : i.toNatClampNeg < n := Nat.not_le.mp fun q => hin (Or.inr q)
  exact W.iald (v := .int (xA h a i.toNatClampNeg)) hx hb (hR a _ ht) ((hK.2 0 _ rfl).1 n (fun j => .int (xA h a j))) (fun q => by cases q) (by show ¬ (i < 0 ∨ (arrV _ _ _).slots.size ≤ _); rw [arrV_size]; exact hin) (by show (arrV _ _ _).slots[_]? = _; rw [arrV_read _ _ hlt]) rfl rfl hdg kk
theorem x_zald (C0 : xC D own cc nL rt p s m args meth c) (hR : xRep D ty h H) {i v : Int32} (hg : xga 2 ty h a i = some v) (hdg : decode cc pc = .ok (.baload, 1))
    (kk : W p l e R s m args below meth c H locs cells slots Q (F0 m (pc + 1) ls (.int v :: rest))) : W p l e R s m args below meth c H locs cells slots Q (F0 m pc ls (.int i :: .ref a :: rest)) := by
  obtain ⟨hx, hb, -, -, -, hown, hts, hK, -⟩ := C0
  obtain ⟨n, ht, hin, rfl⟩ := xga_sp hg
  have hlt : i.toNatClampNeg < n := Nat.not_le.mp fun q => hin (Or.inr q)
  exact W.zald (v := .int (xA h a i.toNatClampNeg)) hx hb (hR a _ ht) ((hK.2 1 _ rfl).1 n (fun j => .int (xA h a j))) (fun q => by cases q) (by show ¬ (i < 0 ∨ (arrV _ _ _).slots.size ≤ _); rw [arrV_size]; exact hin) (by show (arrV _ _ _).slots[_]? = _; rw [arrV_read _ _ hlt]) rfl rfl hdg kk
theorem x_ald (C0 : xC D own cc nL rt p s m args meth c) (hR : xRep D ty h H) {i : Int32} {v : Nat} (hg : xgp ty h a i 7 = some v) (hdg : decode cc pc = .ok (.aaload, 1))
    (kk : ty v = some (0, 7) → W p l e R s m args below meth c H locs cells slots Q (F0 m (pc + 1) ls (.ref v :: rest))) : W p l e R s m args below meth c H locs cells slots Q (F0 m pc ls (.int i :: .ref a :: rest)) := by
  obtain ⟨hx, hb, -, -, -, hown, hts, hK, -⟩ := C0
  have key : ∃ n, ty a = some (3, n) ∧ vp_in i n ∧ xP h a i.toNatClampNeg = some v ∧ ty v = some (0, 7) := by
    unfold xgp at hg
    split at hg
    · rename_i kx n ht
      split at hg
      · rename_i hc
        split at hg
        · rename_i b hb
          split at hg
          · rename_i hz
            cases hg
            exact ⟨n, by rw [ht, hc.1], xok_in hc.2, hb, hz⟩
          · cases hg
        · cases hg
      · cases hg
    · cases hg
  obtain ⟨n, ht, hin, hp, hz⟩ := key
  have hlt : i.toNatClampNeg < n := Nat.not_le.mp fun q => hin (Or.inr q)
  exact W.aald (v := .ref v) (ty := .object RX7) hx hb (hR a _ ht) ((hK.2 2 _ rfl).1 n (fun j => va_rf (xP h a j))) rfl (fun q => by cases q) (by show ¬ (i < 0 ∨ (arrV _ _ _).slots.size ≤ _); rw [arrV_size]; exact hin) (by show (arrV _ _ _).slots[_]? = _; rw [arrV_read _ _ hlt, hp]; rfl) rfl rfl hdg (kk hz)
theorem x_iast (C0 : xC D own cc nL rt p s m args meth c) (hR : xRep D ty h H) (hS0 : xS ty H0 H locs) {i v : Int32} {h1 : xH} (hg : xwa 1 ty h a i v = some h1) (hdg : decode cc pc = .ok (.iastore, 1))
    (kk : ∀ (H1 : Heap) (locs1 : List Loc), xRep D ty h1 H1 → xS ty H0 H1 locs1 → W p l e R s m args below meth c H1 locs1 cells slots Q (F0 m (pc + 1) ls rest)) : W p l e R s m args below meth c H locs cells slots Q (F0 m pc ls (.int v :: .int i :: .ref a :: rest)) := by
  obtain ⟨hx, hb, -, -, -, hown, hts, hK, -⟩ := C0
  obtain ⟨n, ht, hin, rfl⟩ := xwa_sp hg
  refine W.iast hx hb (hR a _ ht) ((hK.2 0 _ rfl).1 n (fun j => .int (xA h a j))) (fun q => by cases q) (by show ¬ (i < 0 ∨ (arrV _ _ _).slots.size ≤ _); rw [arrV_size]; exact hin) rfl rfl hdg fun H1 e z oq => ?_
  refine kk H1 _ (hR.set (fun t ht' => ?_) oq (fun q hq j => ⟨rfl, rfl, xup_ne _ _ (Or.inl hq), rfl, rfl⟩)) (hS0.put z oq (by intro z; rw [ht] at z; cases z))
  cases ht.symm.trans ht'
  show H1[a]? = some (arrV _ _ _)
  rw [e, arrV_store]
  congr 2
  funext q
  by_cases hq : q = i.toNatClampNeg
  · subst hq
    simp [updV, xA, xsA, xup]
  · simp [updV, xA, xsA, xup, hq]
theorem x_zast (C0 : xC D own cc nL rt p s m args meth c) (hR : xRep D ty h H) (hS0 : xS ty H0 H locs) {i v : Int32} {h1 : xH} (hn : narrow .boolean (.int v) = .int v) (hg : xwa 2 ty h a i v = some h1) (hdg : decode cc pc = .ok (.bastore, 1))
    (kk : ∀ (H1 : Heap) (locs1 : List Loc), xRep D ty h1 H1 → xS ty H0 H1 locs1 → W p l e R s m args below meth c H1 locs1 cells slots Q (F0 m (pc + 1) ls rest)) : W p l e R s m args below meth c H locs cells slots Q (F0 m pc ls (.int v :: .int i :: .ref a :: rest)) := by
  obtain ⟨hx, hb, -, -, -, hown, hts, hK, -⟩ := C0
  obtain ⟨n, ht, hin, rfl⟩ := xwa_sp hg
  refine W.zast hx hb (hR a _ ht) ((hK.2 1 _ rfl).1 n (fun j => .int (xA h a j))) (fun q => by cases q) (by show ¬ (i < 0 ∨ (arrV _ _ _).slots.size ≤ _); rw [arrV_size]; exact hin) rfl rfl hdg fun H1 e z oq => ?_
  refine kk H1 _ (hR.set (fun t ht' => ?_) oq (fun q hq j => ⟨rfl, rfl, xup_ne _ _ (Or.inl hq), rfl, rfl⟩)) (hS0.put z oq (by intro z; rw [ht] at z; cases z))
  cases ht.symm.trans ht'
  show H1[a]? = some (arrV _ _ _)
  rw [e, hn, arrV_store]
  congr 2
  funext q
  by_cases hq : q = i.toNatClampNeg
  · subst hq
    simp [updV, xA, xsA, xup]
  · simp [updV, xA, xsA, xup, hq]
theorem x_ast (C0 : xC D own cc nL rt p s m args meth c) (hR : xRep D ty h H) (hS0 : xS ty H0 H locs) {i : Int32} {v : Nat} {h1 : xH} (hv : ty v = some (0, 7)) (hg : xwp ty h a i v = some h1) (hdg : decode cc pc = .ok (.aastore, 1))
    (kk : ∀ (H1 : Heap) (locs1 : List Loc), xRep D ty h1 H1 → xS ty H0 H1 locs1 → W p l e R s m args below meth c H1 locs1 cells slots Q (F0 m (pc + 1) ls rest)) : W p l e R s m args below meth c H locs cells slots Q (F0 m pc ls (.ref v :: .int i :: .ref a :: rest)) := by
  obtain ⟨hx, hb, -, -, -, hown, hts, hK, -⟩ := C0
  have key : ∃ n, ty a = some (3, n) ∧ vp_in i n ∧ h1 = xsP h a i.toNatClampNeg (some v) := by
    unfold xwp at hg
    split at hg
    · rename_i kx n ht
      split at hg
      · rename_i hc
        cases hg
        exact ⟨n, by rw [ht, hc.1], xok_in hc.2, rfl⟩
      · cases hg
    · cases hg
  obtain ⟨n, ht, hin, rfl⟩ := key
  have hlt : i.toNatClampNeg < n := Nat.not_le.mp fun q => hin (Or.inr q)
  have h0 : ¬ i < 0 := fun q => hin (Or.inl q)
  obtain ⟨r', hr', cellV, g1, g2, g3, -⟩ := hR v _ hv
  have hcls := (hK.1 7 (RX7, TX7, 3) rfl).2
  obtain ⟨kA, comp, k1, k2, k3, -⟩ := (hK.2 2 _ rfl).2
  have hcomp : comp = D.1.1 7 := Option.some.inj (k3.symm.trans hcls.1)
  subst hcomp
  obtain ⟨kC, hkC, -⟩ := hcls.2
  refine W.aast hx hb (hR a _ ht) (fun q h => by cases h) (fun h => by cases h) k1 k2 rfl hkC ⟨h0, by show _ < (arrV _ _ _).slots.size; rw [arrV_size]; exact hlt⟩ g1 (fun q h => by rw [g3] at h; cases h) (by rw [g2]; exact hkC) (by rw [g2]; exact va_assign hcls) rfl rfl hdg fun H1 e z oq => ?_
  refine kk H1 _ (hR.set (fun t ht' => ?_) oq (fun q hq j => ⟨rfl, rfl, rfl, xup_ne _ _ (Or.inl hq), rfl⟩)) (hS0.put z oq (by intro z; rw [ht] at z; cases z))
  cases ht.symm.trans ht'
  show H1[a]? = some (arrV _ _ _)
  rw [e, arrV_store]
  congr 2
  funext q
  by_cases hq : q = i.toNatClampNeg
  · subst hq
    simp [updV, xP, xsP, xup, va_rf]
  · simp [updV, xP, xsP, xup, hq]
theorem x_len (C0 : xC D own cc nL rt p s m args meth c) (hR : xRep D ty h H) {v : Int32} (hg : xlen 1 ty a = some v) (hdg : decode cc pc = .ok (.arraylength, 1))
    (kk : W p l e R s m args below meth c H locs cells slots Q (F0 m (pc + 1) ls (.int v :: rest))) : W p l e R s m args below meth c H locs cells slots Q (F0 m pc ls (.ref a :: rest)) := by
  obtain ⟨hx, hb, -, -, -, hown, hts, hK, -⟩ := C0
  have key : ∃ n, ty a = some (1, n) ∧ v = Int32.ofNat n := by
    unfold xlen at hg
    split at hg
    · rename_i kx n ht
      split at hg
      · rename_i hc
        cases hg
        exact ⟨n, by rw [ht, hc], rfl⟩
      · cases hg
    · cases hg
  obtain ⟨n, ht, rfl⟩ := key
  exact W.alen (n := Int32.ofNat n) hx hb (hR a _ ht) ((hK.2 0 _ rfl).1 n (fun j => .int (xA h a j))) (by rw [arrV_size] <;> rfl) rfl rfl hdg kk
end XROW
section XCALL
variable {p : Program} {l : Launch} {e : Env} {R : Room} {s : State} {m : MethodId} {args : Array Value} {below : List Frame} {meth : Method} {c : Code} {H H0 : Heap} {locs : List Loc} {cells slots : Nat} {Q : State → Prop}
variable {cc bytes : ByteArray} {nL maxL pc index n : Nat} {rt ret : Option FieldType} {own : String} {ls : Array Slot} {rest As st0 : List Value} {D : xD} {ty : xTy} {h h1 : xH} {b : Nat} {y : MethodName} {rm : Room} {v : Option Value}
/-- the words of a method that is called -/
def xMw (y : MethodName) (bytes : ByteArray) (maxL : Nat) (ret : Option FieldType) (n : Nat) : Prop :=
  Cond.code y bytes maxL ret ∈ xT ∧ Cond.initialized y.cls ∈ xT ∧ (y.cls ≠ "java/lang/invoke/MethodHandle" ∧ y.cls ≠ "java/lang/invoke/VarHandle" ∧ (parseMethodDescriptor y.desc).map (fun d => d.parameters.length) = some n)
def xws (y : MethodName) (bytes : ByteArray) (maxL : Nat) (ret : Option FieldType) : List Cond := Cond.code y bytes maxL ret :: xT
theorem xGood (hm : xMw y bytes maxL ret n) : GoodIn xT (xws y bytes maxL ret) := by
  intro w hw
  have h1 : w ∈ xT := by
    rcases List.mem_cons.mp hw with rfl | h
    · exact hm.1
    · exact h
  exact ⟨h1, good_of_word (List.mem_filter.mp h1).2⟩
theorem x_back {Qa : State → Outcome → State → Prop} (hQ : ∀ st₀ v0 t, Qa st₀ v0 t → xQ D ty v h1 #[] st₀ v0 t) {ls' : Array Slot} (hr : va_Run p l e R s m args below meth c H locs cells slots 0 0 (F0 m pc ls st0) rest Qa (xdom ty)) (hS0 : xS ty H0 H locs)
    (kk : ∀ (H1 : Heap) (locs1 : List Loc), xRep D ty h1 H1 → xS ty H0 H1 locs1 → W p l e R s m args below meth c H1 locs1 cells slots Q (F0 m (pc + 3) ls (v.toList ++ rest))) : W p l e R s m args below meth c H locs cells slots Q (F0 m pc ls st0) := by
  intro T hT X
  obtain ⟨v', st₀, t, T', L, z0, X', hL, e1, e2, hq, st⟩ := hr T hT X
  obtain ⟨q1, q2, q3, q4⟩ := hQ _ _ _ hq
  cases q1
  obtain ⟨t2, a1, b1⟩ := kk T'.heap (locs ++ L) (by rw [e1]; exact q2) ⟨by rw [e1, q3, z0]; exact hS0.1, fun q hq => by rw [e1, q4 q hq, z0]; exact hS0.2.1 q hq, fun q hq => by
      rcases List.mem_append.mp hq with h | h
      · exact hS0.2.2 q h
      · exact hL q h⟩ T' rfl X'
  exact ⟨t2, st t2 a1, b1⟩
theorem x_callV (C0 : xC D own cc nL rt p s m args meth c) (hM : Met l y (xws y bytes maxL ret) rm (xPc D ty h (.ref b :: As)) (xQ D ty v h1) 0 0 (xdom ty)) (hm : xMw y bytes maxL ret n) (hi : Cond.instanceMethod y ∈ xT) (hse : Cond.selects y.cls y y ∈ xT) (hl : Cond.methodLink own index y ∈ xT)
    (hrm : rm.cells = 0 ∧ rm.slots = 0 ∧ rm.frames + 1 ≤ R.frames ∧ 8 + (maxL + 11) + rm.locals ≤ R.locals) {ci N : Nat} {T : u_T} (hc : xcl[ci]? = some (y.cls, T, N)) (ht : ty b = some (0, ci)) (hR : xRep D ty h H) (hS0 : xS ty H0 H locs)
    (hn : As.length = n) (hsz : ls.size = nL) (hst : st0 = As.reverse ++ .ref b :: rest) (hW : (rest.map fun v => v.category).sum ≤ 8) (hdg : decode cc pc = .ok (.invokevirtual index, 3)) (hf : cells ≤ R.cells ∧ slots ≤ R.slots)
    (kk : ∀ (H1 : Heap) (locs1 : List Loc), xRep D ty h1 H1 → xS ty H0 H1 locs1 → W p l e R s m args below meth c H1 locs1 cells slots Q (F0 m (pc + 3) ls (v.toList ++ rest))) : W p l e R s m args below meth c H locs cells slots Q (F0 m pc ls st0) := by
  obtain ⟨hx, hb, hml, -, -, hown, hts, hK⟩ := C0
  refine x_back (fun _ _ _ q => q) (va_runV (Ts := xT) (own := own) (C := y.cls) (As := As) (rest := rest) ⟨hx, hb, hml, hown, hts⟩ hM ⟨callB_of n hts (xGood hm) rfl hrm.1 hrm.2.1 (hts _ hm.2.1) (hts _ hl) hm.2.2 hrm.2.2, hts _ hi, hts _ hse⟩ ⟨xPc.blind, ?_, fun U hU hW => ⟨rfl, by rw [hU]; exact hR, xK.warm hW hK⟩⟩ rfl hn hsz hst (by simpa using hW) hdg hf) hS0 kk (ls' := ls)
  obtain ⟨r, q0, cell, q1, q2, q3, -⟩ := hR b _ ht
  exact ⟨cell, q1, by rw [q3]; rfl, by rw [q2]; exact (hK.1.1 ci _ hc).2.1⟩
theorem x_callS (C0 : xC D own cc nL rt p s m args meth c) (hM : Met l y (xws y bytes maxL ret) rm (xPc D ty h As) (xQ D ty v h1) 0 0 (xdom ty)) (hm : xMw y bytes maxL ret n) (hi : Cond.static y ∈ xT) (hl : Cond.methodLink own index y ∈ xT)
    (hrm : rm.cells = 0 ∧ rm.slots = 0 ∧ rm.frames + 1 ≤ R.frames ∧ 8 + (maxL + 11) + rm.locals ≤ R.locals) (hR : xRep D ty h H) (hS0 : xS ty H0 H locs)
    (hn : As.length = n) (hsz : ls.size = nL) (hst : st0 = As.reverse ++ rest) (hW : (rest.map fun v => v.category).sum ≤ 8) (hdg : decode cc pc = .ok (.invokestatic index, 3)) (hf : cells ≤ R.cells ∧ slots ≤ R.slots)
    (kk : ∀ (H1 : Heap) (locs1 : List Loc), xRep D ty h1 H1 → xS ty H0 H1 locs1 → W p l e R s m args below meth c H1 locs1 cells slots Q (F0 m (pc + 3) ls (v.toList ++ rest))) : W p l e R s m args below meth c H locs cells slots Q (F0 m pc ls st0) := by
  obtain ⟨hx, hb, hml, -, -, hown, hts, hK⟩ := C0
  exact x_back (fun _ _ _ q => q) (va_runS (Ts := xT) (own := own) (As := As) (rest := rest) ⟨hx, hb, hml, hown, hts⟩ hM ⟨callB_of n hts (xGood hm) rfl hrm.1 hrm.2.1 (hts _ hm.2.1) (hts _ hl) hm.2.2 hrm.2.2, hts _ hi⟩ ⟨xPc.blind, fun U hU hW => ⟨rfl, by rw [hU]; exact hR, xK.warm hW hK⟩⟩ rfl hn hsz hst (by simpa using hW) hdg hf) hS0 kk (ls' := ls)
theorem x_callSN {host : String} (C0 : xC D own cc nL rt p s m args meth c) (hM : Met l y (xws y bytes maxL ret) rm (xPc D ty h As) (xQ D ty v h1) 0 0 (xdom ty)) (hm : xMw y bytes maxL ret n) (hi : Cond.static y ∈ xT) (hl : Cond.methodLinkNest own index y host ∈ xNest)
    (hrm : rm.cells = 0 ∧ rm.slots = 0 ∧ rm.frames + 1 ≤ R.frames ∧ 8 + (maxL + 11) + rm.locals ≤ R.locals) (hR : xRep D ty h H) (hS0 : xS ty H0 H locs)
    (hn : As.length = n) (hsz : ls.size = nL) (hst : st0 = As.reverse ++ rest) (hW : (rest.map fun v => v.category).sum ≤ 8) (hdg : decode cc pc = .ok (.invokestatic index, 3)) (hf : cells ≤ R.cells ∧ slots ≤ R.slots)
    (kk : ∀ (H1 : Heap) (locs1 : List Loc), xRep D ty h1 H1 → xS ty H0 H1 locs1 → W p l e R s m args below meth c H1 locs1 cells slots Q (F0 m (pc + 3) ls (v.toList ++ rest))) : W p l e R s m args below meth c H locs cells slots Q (F0 m pc ls st0) := by
  obtain ⟨hx, hb, hml, -, -, hown, hts, hK⟩ := C0
  exact x_back (fun _ _ _ q => q) (va_runSN (Ts := xT) (own := own) (As := As) (rest := rest) ⟨hx, hb, hml, hown, hts⟩ hM ⟨va_cnB n hts (xGood hm) rfl hrm.1 hrm.2.1 (hK.2 _ hl) (hts _ hm.2.1) hm.2.2 hrm.2.2, hts _ hi, trivial⟩ ⟨xPc.blind, fun U hU hW => ⟨rfl, by rw [hU]; exact hR, xK.warm hW hK⟩⟩ rfl hn hsz hst (by simpa using hW) hdg hf) hS0 kk (ls' := ls)
/-- a contract out of a walk -/
theorem x_met {y : MethodName} {bytes : ByteArray} {maxL : Nat} {ret : Option FieldType} {rm : Room} {av : List Value} {v : Option Value} {h h1 : xH} (hy : plainName y.cls = true)
    (body : ∀ p e s m below meth c, xC D y.cls bytes maxL ret p s m av.toArray meth c → xRep D ty h s.heap → W p l e rm s m av.toArray below meth c s.heap [] 0 0 (MQ below (xQ D ty v h1) av.toArray s 0 0 (xdom ty)) (entryFrame m av.toArray maxL)) :
    Met l y (xws y bytes maxL ret) rm (xPc D ty h av) (xQ D ty v h1) 0 0 (xdom ty) := by
  refine Met.ofW (cc := bytes) (maxL := maxL) (ret := ret) hy rfl ?_
  intro p e s m args below meth c s₁ B hml hv
  obtain ⟨rfl, hR, hK⟩ := hv
  have hts := atoms_spec (ws := xws y bytes maxL ret) B.pre
  exact body p e s m below meth c ⟨B.exec, B.bytes, hml, B.returns, B.notSynchronized, findClass_of_methodNamed B.named, fun w hw => hts w (List.mem_cons_of_mem _ hw), hK⟩ hR
end XCALL
section XRET
variable {p : Program} {l : Launch} {e : Env} {R : Room} {s : State} {m : MethodId} {args : Array Value} {below : List Frame} {meth : Method} {c : Code} {H : Heap} {locs : List Loc}
variable {cc : ByteArray} {nL pc : Nat} {own : String} {ls : Array Slot} {D : xD} {ty : xTy} {h : xH}
theorem xQ.of {v : Option Value} {t : State} (hR : xRep D ty h H) (hS : xS ty s.heap H locs) (ht : t.heap = H) : xQ D ty v h args s (.returned v) t := ⟨rfl, by rw [ht]; exact hR, by rw [ht]; exact hS.1, fun q hq => by rw [ht]; exact hS.2.1 q hq⟩
theorem x_iret {v : Int32} (C0 : xC D own cc nL (some .int) p s m args meth c) (hR : xRep D ty h H) (hS : xS ty s.heap H locs) (hdg : decode cc pc = .ok (.ireturn, 1)) : W p l e R s m args below meth c H locs 0 0 (MQ below (xQ D ty (some (.int v)) h) args s 0 0 (xdom ty)) (F0 m pc ls [.int v]) := by
  obtain ⟨hx, hb, -, hr, hlocks, -⟩ := C0
  exact W.iret hx hb hr (fun t ht _ => xQ.of hR hS ht) hS.2.2 hdg
theorem x_zret {v w : Int32} (C0 : xC D own cc nL (some .boolean) p s m args meth c) (hR : xRep D ty h H) (hS : xS ty s.heap H locs) (hz : xz v = some w) (hdg : decode cc pc = .ok (.ireturn, 1)) : W p l e R s m args below meth c H locs 0 0 (MQ below (xQ D ty (some (.int w)) h) args s 0 0 (xdom ty)) (F0 m pc ls [.int v]) := by
  obtain ⟨hx, hb, -, hr, hlocks, -⟩ := C0
  obtain ⟨rfl, hn⟩ := xz_sp hz
  exact W.zret hx hb hr hn (fun t ht _ => xQ.of hR hS ht) hS.2.2 hdg
theorem x_vret (C0 : xC D own cc nL none p s m args meth c) (hR : xRep D ty h H) (hS : xS ty s.heap H locs) (hdg : decode cc pc = .ok (.return_, 1)) : W p l e R s m args below meth c H locs 0 0 (MQ below (xQ D ty none h) args s 0 0 (xdom ty)) (F0 m pc ls []) := by
  obtain ⟨hx, hb, -, hr, hlocks, -⟩ := C0
  exact W.vret hx hb hr (fun t ht _ => xQ.of hR hS ht) hS.2.2 hdg
theorem x_aret {v : Nat} {Cn : String} (C0 : xC D own cc nL (some (.object Cn)) p s m args meth c) (hR : xRep D ty h H) (hS : xS ty s.heap H locs) (hdg : decode cc pc = .ok (.areturn, 1)) : W p l e R s m args below meth c H locs 0 0 (MQ below (xQ D ty (some (.ref v)) h) args s 0 0 (xdom ty)) (F0 m pc ls [.ref v]) := by
  obtain ⟨hx, hb, -, hr, hlocks, -⟩ := C0
  exact W.aret hx hb hr (Or.inl ⟨_, rfl⟩) (Or.inr ⟨_, rfl⟩) (fun t ht _ => xQ.of hR hS ht) hS.2.2 hdg
end XRET

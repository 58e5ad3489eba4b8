/-! CELLS THAT COME: the world of the constructors -/
def tyN (ty : xTy) (n : Nat) : xTy := fun q => if q < n then ty q else none
theorem tyN_lt {ty : xTy} {n q : Nat} (h : q < n) : tyN ty n q = ty q := if_pos h
theorem tyN_ge {ty : xTy} {n q : Nat} (h : n ≤ q) : tyN ty n q = none := if_neg (Nat.not_lt.mpr h)
def lkp {α : Type} : List (Nat × Nat × α) → Nat → Nat → Option α
  | [], _, _ => none
  | x :: t, q, k => if x.1 = q ∧ x.2.1 = k then some x.2.2 else lkp t q k
/-- references, ints, rows of references, rows of ints; else nothing, zero -/
def hOf (N : Nat) (r : List (Nat × Nat × Nat)) (i : List (Nat × Nat × Int)) (p : List (Nat × Nat × Nat)) (a : List (Nat × Nat × Int)) : xH :=
  (fun q k => if N ≤ q then (fun o : Option Int => i32 (o.getD 0)) (lkp i (q - N) k) else 0, fun q k => if N ≤ q then (fun o : Option Nat => o.map (N + ·)) (lkp r (q - N) k) else none,
   fun q k => if N ≤ q then (fun o : Option Int => i32 (o.getD 0)) (lkp a (q - N) k) else 0, fun q k => if N ≤ q then (fun o : Option Nat => o.map (N + ·)) (lkp p (q - N) k) else none, fun _ _ => 0)
theorem hOf_aux {α β : Type} {N : Nat} (f : Option α → β) (l : List (Nat × Nat × α)) (q k : Nat) (v : α) (d : β) : xup (fun a b => if N ≤ a then f (lkp l (a - N) b) else d) (N + q) k (f (some v)) = fun a b => if N ≤ a then f (lkp ((q, k, v) :: l) (a - N) b) else d := by
  funext a b
  unfold xup
  by_cases ha : N ≤ a
  · simp only [ha, if_true]
    by_cases hc : a = N + q ∧ b = k
    · rw [if_pos hc, lkp, if_pos (show q = a - N ∧ k = b from ⟨by omega, hc.2.symm⟩)]
    · rw [if_neg hc, lkp, if_neg (show ¬ (q = a - N ∧ k = b) from fun z => hc ⟨by omega, z.2.symm⟩)]
  · rw [if_neg (show ¬ (a = N + q ∧ b = k) from fun z => ha (by omega))]
    simp only [ha, if_false]
section GROW
variable {N n : Nat} {r p : List (Nat × Nat × Nat)} {i a : List (Nat × Nat × Int)}
theorem hOf_I (q k : Nat) (v : Int) : xsI (hOf N r i p a) (N + q) k (i32 v) = hOf N r ((q, k, v) :: i) p a := by
  unfold xsI hOf
  exact Prod.ext (hOf_aux (fun o : Option Int => i32 (o.getD 0)) i q k v 0) rfl
theorem hOf_R (q k v : Nat) : xsR (hOf N r i p a) (N + q) k (some (N + v)) = hOf N ((q, k, v) :: r) i p a := by
  unfold xsR hOf
  exact Prod.ext rfl (Prod.ext (hOf_aux (fun o : Option Nat => o.map (N + ·)) r q k v none) rfl)
theorem hOf_A (q k : Nat) (v : Int) : xsA (hOf N r i p a) (N + q) k (i32 v) = hOf N r i p ((q, k, v) :: a) := by
  unfold xsA hOf
  exact Prod.ext rfl (Prod.ext rfl (Prod.ext (hOf_aux (fun o : Option Int => i32 (o.getD 0)) a q k v 0) rfl))
theorem hOf_P (q k v : Nat) : xsP (hOf N r i p a) (N + q) k (some (N + v)) = hOf N r i ((q, k, v) :: p) a := by
  unfold xsP hOf
  exact Prod.ext rfl (Prod.ext rfl (Prod.ext rfl (Prod.ext (hOf_aux (fun o : Option Nat => o.map (N + ·)) p q k v none) rfl)))
def frsh {α : Type} (l : List (Nat × Nat × α)) (n : Nat) : Prop := ∀ q k, n ≤ q → lkp l q k = none
theorem frsh.cons {α : Type} {l : List (Nat × Nat × α)} {q k : Nat} {v : α} (h : frsh l n) (hq : q < n) : frsh ((q, k, v) :: l) n := fun x y hx => by
  rw [lkp, if_neg (show ¬ (q = x ∧ k = y) from fun z => by omega)]
  exact h x y hx
theorem frsh.up {α : Type} {l : List (Nat × Nat × α)} {n1 : Nat} (h : frsh l n) (hn : n ≤ n1) : frsh l n1 := fun x y hx => h x y (by omega)
def frs (r : List (Nat × Nat × Nat)) (i : List (Nat × Nat × Int)) (p : List (Nat × Nat × Nat)) (a : List (Nat × Nat × Int)) (n : Nat) : Prop := frsh r n ∧ frsh i n ∧ frsh p n ∧ frsh a n
def xG (D : xD) (ty : xTy) (N n : Nat) (r : List (Nat × Nat × Nat)) (i : List (Nat × Nat × Int)) (p : List (Nat × Nat × Nat)) (a : List (Nat × Nat × Int)) (H : Heap) : Prop := H.size = N + n ∧ xRep D (tyN ty (N + n)) (hOf N r i p a) H ∧ frs r i p a n ∧ ∀ q, q < N → ty q = none
def xL (ty : xTy) (N n : Nat) (H0 H : Heap) (locs : List Loc) : Prop := (∀ q : Nat, q < N → H[q]? = H0[q]?) ∧ ∀ l ∈ locs, xdom (tyN ty (N + n)) l.base
variable {D : xD} {ty : xTy} {H H0 H1 : Heap} {locs locs1 : List Loc}
theorem xG.S (_hG : xG D ty N n r i p a H) (hS : xL ty N n H0 H locs) : xS (tyN ty (N + n)) H H locs := ⟨rfl, fun _ _ => rfl, hS.2⟩
theorem xG.go (hG : xG D ty N n r i p a H) (hS : xL ty N n H0 H locs) (h : xS (tyN ty (N + n)) H H1 locs1) : xL ty N n H0 H1 locs1 := ⟨fun q hq => by
  rw [h.2.1 q (by rw [tyN_lt (by omega)]; exact hG.2.2.2 q hq)]
  exact hS.1 q hq, h.2.2⟩
theorem xL.up (h : xL ty N n H0 H locs) {n1 : Nat} (hn : n ≤ n1) (hk : ∀ q : Nat, q < N → H1[q]? = H[q]?) : xL ty N n1 H0 H1 locs := ⟨fun q hq => (hk q hq).trans (h.1 q hq), fun l hl => by
  have h2 := h.2 l hl
  unfold xdom tyN at h2 ⊢
  split at h2
  · rw [if_pos (by omega)]; exact h2
  · exact absurd rfl h2⟩
theorem xG.I (hG : xG D ty N n r i p a H) {q k : Nat} {v : Int} (hq : q < n) (hR : xRep D (tyN ty (N + n)) (xsI (hOf N r i p a) (N + q) k (i32 v)) H1) (hz : H1.size = H.size) : xG D ty N n r ((q, k, v) :: i) p a H1 :=
  ⟨hz.trans hG.1, by rw [← hOf_I]; exact hR, ⟨hG.2.2.1.1, hG.2.2.1.2.1.cons hq, hG.2.2.1.2.2⟩, hG.2.2.2⟩
theorem xG.R (hG : xG D ty N n r i p a H) {q k v : Nat} (hq : q < n) (hR : xRep D (tyN ty (N + n)) (xsR (hOf N r i p a) (N + q) k (some (N + v))) H1) (hz : H1.size = H.size) : xG D ty N n ((q, k, v) :: r) i p a H1 :=
  ⟨hz.trans hG.1, by rw [← hOf_R]; exact hR, ⟨hG.2.2.1.1.cons hq, hG.2.2.1.2⟩, hG.2.2.2⟩
theorem xG.A (hG : xG D ty N n r i p a H) {q k : Nat} {v : Int} (hq : q < n) (hR : xRep D (tyN ty (N + n)) (xsA (hOf N r i p a) (N + q) k (i32 v)) H1) (hz : H1.size = H.size) : xG D ty N n r i p ((q, k, v) :: a) H1 :=
  ⟨hz.trans hG.1, by rw [← hOf_A]; exact hR, ⟨hG.2.2.1.1, hG.2.2.1.2.1, hG.2.2.1.2.2.1, hG.2.2.1.2.2.2.cons hq⟩, hG.2.2.2⟩
theorem xG.P (hG : xG D ty N n r i p a H) {q k v : Nat} (hq : q < n) (hR : xRep D (tyN ty (N + n)) (xsP (hOf N r i p a) (N + q) k (some (N + v))) H1) (hz : H1.size = H.size) : xG D ty N n r i ((q, k, v) :: p) a H1 :=
  ⟨hz.trans hG.1, by rw [← hOf_P]; exact hR, ⟨hG.2.2.1.1, hG.2.2.1.2.1, hG.2.2.1.2.2.1.cons hq, hG.2.2.1.2.2.2⟩, hG.2.2.2⟩
/-- what a new cell holds -/
theorem xG.z (hG : xG D ty N n r i p a H) (k : Nat) : xI (hOf N r i p a) (N + n) k = 0 ∧ xR (hOf N r i p a) (N + n) k = none ∧ xA (hOf N r i p a) (N + n) k = 0 ∧ xP (hOf N r i p a) (N + n) k = none ∧ xJ (hOf N r i p a) (N + n) k = 0 := by
  obtain ⟨h1, h2, h3, h4⟩ := hG.2.2.1
  have e : N + n - N = n := by omega
  have hN : N ≤ N + n := by omega
  refine ⟨?_, ?_, ?_, ?_, rfl⟩
  · show (if N ≤ N + n then _ else _) = _
    rw [if_pos hN, e, h2 n k (Nat.le_refl n)]; rfl
  · show (if N ≤ N + n then _ else _) = _
    rw [if_pos hN, e, h1 n k (Nat.le_refl n)]; rfl
  · show (if N ≤ N + n then _ else _) = _
    rw [if_pos hN, e, h4 n k (Nat.le_refl n)]; rfl
  · show (if N ≤ N + n then _ else _) = _
    rw [if_pos hN, e, h3 n k (Nat.le_refl n)]; rfl
theorem xG.new (hG : xG D ty N n r i p a H) {t : Nat × Nat} (ht : ty (N + n) = some t) (hz : H1.size = H.size + 1) (hk : ∀ q : Nat, q < H.size → H1[q]? = H[q]?) (hA : xAt D (hOf N r i p a) (N + n) t H1) : xG D ty N (n + 1) r i p a H1 := by
  obtain ⟨g1, g2, ⟨g3, g4, g5, g6⟩, g7⟩ := hG
  refine ⟨by rw [hz, g1]; rfl, fun q u hq => ?_, ⟨g3.up (by omega), g4.up (by omega), g5.up (by omega), g6.up (by omega)⟩, g7⟩
  rcases Nat.lt_or_ge q (N + n) with h | h
  · exact (g2 q u (by rw [tyN_lt h]; rw [tyN_lt (by omega)] at hq; exact hq)).kept (hk q (by omega)) (fun _ => ⟨rfl, rfl, rfl, rfl, rfl⟩)
  · rcases Nat.lt_or_ge q (N + (n + 1)) with h2 | h2
    · have e : q = N + n := by omega
      subst e
      rw [tyN_lt h2, ht] at hq
      cases hq
      exact hA
    · rw [tyN_ge h2] at hq; cases hq
end GROW
section GROWR
variable {p : Program} {l : Launch} {e : Env} {R : Room} {s : State} {m : MethodId} {args : Array Value} {below : List Frame} {meth : Method} {c : Code} {H H0 : Heap} {locs : List Loc} {cells slots : Nat} {Q : State → Prop}
variable {cc : ByteArray} {nL pc : Nat} {rt : Option FieldType} {own : String} {ls : Array Slot} {rest : List Value} {D : xD} {ty : xTy} {N n n1 c1 s1 : Nat} {tR tP : List (Nat × Nat × Nat)} {tI tA : List (Nat × Nat × Int)}
theorem wA_int : Cond.arrayClass .int ∈ xT := xin 174 (by decide +kernel) rfl
theorem wA_boolean : Cond.arrayClass .boolean ∈ xT := xin 397 (by decide +kernel) rfl
theorem wA_long : Cond.arrayClass .long ∈ xT := xin 1916 (by decide +kernel) rfl
theorem wO_i : Cond.instanceMethod Lib.objectInit ∈ xT := xin 140 (by decide +kernel) rfl
theorem wO_c : Cond.code Lib.objectInit ⟨#[0xb1]⟩ 1 none ∈ xT := xin 141 (by decide +kernel) rfl
theorem g_newi (C0 : xC D own cc nL rt p s m args meth c) (hG : xG D ty N n tR tI tP tA H) (hS : xL ty N n H0 H locs) {len : Nat} {v : Int32} (hn1 : n1 = n + 1) (hc1 : c1 = cells + 1) (hs1 : s1 = slots + len) (ht : ty (N + n) = some (1, len)) (hn : ¬ v < 0) (hN : v.toNatClampNeg = len) (hby : len * 4 ≤ 536870912) (hce : c1 ≤ R.cells) (hsl : s1 ≤ R.slots) (hdg : decode cc pc = .ok (.newarray .int, 2))
    (kk : ∀ H1 : Heap, xG D ty N n1 tR tI tP tA H1 → xL ty N n1 H0 H1 locs → W p l e R s m args below meth c H1 locs c1 s1 Q (F0 m (pc + 2) ls (.ref (N + n) :: rest))) : W p l e R s m args below meth c H locs cells slots Q (F0 m pc ls (.int v :: rest)) := by
  subst hn1; subst hc1; subst hs1
  obtain ⟨hx, hb, -, -, -, hown, hts, hK, -⟩ := C0
  refine va_newaK (atype := .int) (h := N + n) hx hb (hts _ wA_int) rfl hdg rfl hn hN hby hce hsl hG.1 fun H1 cA e1 z1 o1 hAr hNm => ?_
  have hcA : cA = D.2.1 := Option.some.inj (hNm.symm.trans (hK.2 0 _ rfl).2)
  refine kk H1 (hG.new ht (by rw [z1, hG.1]) (fun q hq => o1 q (by rw [← hG.1]; exact hq)) ?_) (hS.up (by omega) (fun q hq => o1 q (by omega)))
  show H1[N + n]? = some (arrV D.2.1 len (fun j => .int (xA (hOf N tR tI tP tA) (N + n) j)))
  rw [e1, hcA]
  congr 2
  funext j
  rw [(hG.z j).2.2.1]
  rfl
theorem g_newz (C0 : xC D own cc nL rt p s m args meth c) (hG : xG D ty N n tR tI tP tA H) (hS : xL ty N n H0 H locs) {len : Nat} {v : Int32} (hn1 : n1 = n + 1) (hc1 : c1 = cells + 1) (hs1 : s1 = slots + len) (ht : ty (N + n) = some (2, len)) (hn : ¬ v < 0) (hN : v.toNatClampNeg = len) (hby : len * 1 ≤ 536870912) (hce : c1 ≤ R.cells) (hsl : s1 ≤ R.slots) (hdg : decode cc pc = .ok (.newarray .boolean, 2))
    (kk : ∀ H1 : Heap, xG D ty N n1 tR tI tP tA H1 → xL ty N n1 H0 H1 locs → W p l e R s m args below meth c H1 locs c1 s1 Q (F0 m (pc + 2) ls (.ref (N + n) :: rest))) : W p l e R s m args below meth c H locs cells slots Q (F0 m pc ls (.int v :: rest)) := by
  subst hn1; subst hc1; subst hs1
  obtain ⟨hx, hb, -, -, -, hown, hts, hK, -⟩ := C0
  refine va_newaK (atype := .boolean) (h := N + n) hx hb (hts _ wA_boolean) rfl hdg rfl hn hN hby hce hsl hG.1 fun H1 cA e1 z1 o1 hAr hNm => ?_
  have hcA : cA = D.2.2.1 := Option.some.inj (hNm.symm.trans (hK.2 1 _ rfl).2)
  refine kk H1 (hG.new ht (by rw [z1, hG.1]) (fun q hq => o1 q (by rw [← hG.1]; exact hq)) ?_) (hS.up (by omega) (fun q hq => o1 q (by omega)))
  show H1[N + n]? = some (arrV D.2.2.1 len (fun j => .int (xA (hOf N tR tI tP tA) (N + n) j)))
  rw [e1, hcA]
  congr 2
  funext j
  rw [(hG.z j).2.2.1]
  rfl
theorem g_newl (C0 : xC D own cc nL rt p s m args meth c) (hG : xG D ty N n tR tI tP tA H) (hS : xL ty N n H0 H locs) {len : Nat} {v : Int32} (hn1 : n1 = n + 1) (hc1 : c1 = cells + 1) (hs1 : s1 = slots + len) (ht : ty (N + n) = some (4, len)) (hn : ¬ v < 0) (hN : v.toNatClampNeg = len) (hby : len * 8 ≤ 536870912) (hce : c1 ≤ R.cells) (hsl : s1 ≤ R.slots) (hdg : decode cc pc = .ok (.newarray .long, 2))
    (kk : ∀ H1 : Heap, xG D ty N n1 tR tI tP tA H1 → xL ty N n1 H0 H1 locs → W p l e R s m args below meth c H1 locs c1 s1 Q (F0 m (pc + 2) ls (.ref (N + n) :: rest))) : W p l e R s m args below meth c H locs cells slots Q (F0 m pc ls (.int v :: rest)) := by
  subst hn1; subst hc1; subst hs1
  obtain ⟨hx, hb, -, -, -, hown, hts, hK, -⟩ := C0
  refine va_newaK (atype := .long) (h := N + n) hx hb (hts _ wA_long) rfl hdg rfl hn hN hby hce hsl hG.1 fun H1 cA e1 z1 o1 hAr hNm => ?_
  have hcA : cA = D.2.2.2.2 := Option.some.inj (hNm.symm.trans (hK.2 3 _ rfl).2)
  refine kk H1 (hG.new ht (by rw [z1, hG.1]) (fun q hq => o1 q (by rw [← hG.1]; exact hq)) ?_) (hS.up (by omega) (fun q hq => o1 q (by omega)))
  show H1[N + n]? = some (arrV D.2.2.2.2 len (fun j => .long (xJ (hOf N tR tI tP tA) (N + n) j)))
  rw [e1, hcA]
  rfl
theorem g_newp (C0 : xC D own cc nL rt p s m args meth c) (hAO : va_AO RX7 s) (hG : xG D ty N n tR tI tP tA H) (hS : xL ty N n H0 H locs) {len index : Nat} {v : Int32} (hn1 : n1 = n + 1) (hc1 : c1 = cells + 1) (hs1 : s1 = slots + len) (ht : ty (N + n) = some (3, len)) (hcl : Cond.classLink own index RX7 ∈ xT) (hn : ¬ v < 0) (hN : v.toNatClampNeg = len) (hby : len * 4 ≤ 536870912) (hce : c1 ≤ R.cells) (hsl : s1 ≤ R.slots) (hdg : decode cc pc = .ok (.anewarray index, 3))
    (kk : ∀ H1 : Heap, xG D ty N n1 tR tI tP tA H1 → xL ty N n1 H0 H1 locs → W p l e R s m args below meth c H1 locs c1 s1 Q (F0 m (pc + 3) ls (.ref (N + n) :: rest))) : W p l e R s m args below meth c H locs cells slots Q (F0 m pc ls (.int v :: rest)) := by
  subst hn1; subst hc1; subst hs1; subst hN
  obtain ⟨hx, hb, -, -, -, hown, hts, hK, -⟩ := C0
  refine W.anew hx hb hown (hts _ hcl) hAO.use rfl hdg rfl hn hby hce hsl fun cA kA comp f1 f2 f3 f4 => ?_
  have hcA : cA = D.2.2.2.1 := by
    obtain ⟨kA', comp', k1, k2, k3, k4⟩ := (hK.2 2 _ rfl).2
    exact Option.some.inj (f1.symm.trans k4)
  rw [show H.size = N + n from hG.1]
  refine kk _ (hG.new ht (by simp) (fun q hq => by rw [Array.getElem?_push, if_neg (Nat.ne_of_lt hq)]) ?_) (hS.up (by omega) (fun q hq => by rw [Array.getElem?_push, if_neg (by rw [hG.1]; omega)]))
  show _ = some (arrV D.2.2.2.1 _ (fun j => va_rf (xP (hOf N tR tI tP tA) (N + n) j)))
  rw [← hG.1, ← hcA]
  have e : (fun j => va_rf (xP (hOf N tR tI tP tA) (H.size) j)) = fun _ => Value.null := by
    funext j
    rw [hG.1, (hG.z j).2.2.2.1]
    rfl
  rw [e, ← arrV_new]
  simp
theorem g_newo (C0 : xC D own cc nL rt p s m args meth c) (hG : xG D ty N n tR tI tP tA H) (hS : xL ty N n H0 H locs) {ci M index : Nat} {Cn : String} {T : u_T} (hn1 : n1 = n + 1) (hc1 : c1 = cells + 1) (hs1 : s1 = slots + M) (ht : ty (N + n) = some (0, ci)) (hc : xcl[ci]? = some (Cn, T, M)) (hin : ∀ w ∈ u_ws Cn T M, w ∈ xT) (hty : ∀ k, k < M → parseFieldDescriptor (T k).2.2.1 = some (xty ci k)) (hcl : Cond.classLink own index Cn ∈ xT) (hi : Cond.instantiable Cn M ∈ xT) (hii : Cond.initialized Cn ∈ xT) (hdf : ∀ k, k < M → ∀ (h : xH) (q : Nat), xI h q k = 0 → xR h q k = none → xJ h q k = 0 → defaultValue (xty ci k) = xval (xty ci k) h q k) (hce : c1 ≤ R.cells) (hsl : s1 ≤ R.slots) (hdg : decode cc pc = .ok (.new index, 3))
    (kk : ∀ H1 : Heap, xG D ty N n1 tR tI tP tA H1 → xL ty N n1 H0 H1 locs → W p l e R s m args below meth c H1 locs c1 s1 Q (F0 m (pc + 3) ls (.ref (N + n) :: rest))) : W p l e R s m args below meth c H locs cells slots Q (F0 m pc ls rest) := by
  subst hn1; subst hc1; subst hs1
  obtain ⟨hx, hb, -, -, -, hown, hts, hK, -⟩ := C0
  have hKn := hK.1 ci _ hc
  refine W.newcK (h := N + n) hx hb hown (hts _ hcl) (hts _ hi) (hts _ hii) rfl hdg hce hsl hKn.2.1 hG.1 fun H1 kC hkC e1 z1 o1 => ?_
  refine kk H1 (hG.new ht (by rw [z1, hG.1]) (fun q hq => o1 q (by rw [← hG.1]; exact hq)) ?_) (hS.up (by omega) (fun q hq => o1 q (by omega)))
  refine ⟨_, hc, (u_born (xty ci) hts hin hKn hkC e1 hty).to (fun j hj => ?_)⟩
  obtain ⟨z1, z2, -, -, z5⟩ := hG.z j
  exact hdf j hj _ _ z1 z2 z5
end GROWR

/-! THE CLASS's cells as a state of functions: offsets from its first cell; ints, references (offsets), rows, rows of references -/
abbrev CS : Type := (Nat → Nat → Int32) × (Nat → Nat → Nat) × (Nat → Nat → Int32) × (Nat → Nat → Nat)
def cI (c : CS) : Nat → Nat → Int32 := c.1
def cR (c : CS) : Nat → Nat → Nat := c.2.1
def cA (c : CS) : Nat → Nat → Int32 := c.2.2.1
def cP (c : CS) : Nat → Nat → Nat := c.2.2.2
def csI (c : CS) (q k : Nat) (v : Int32) : CS := (fu2 c.1 q k v, c.2.1, c.2.2.1, c.2.2.2)
def csR (c : CS) (q k : Nat) (v : Nat) : CS := (c.1, fu2 c.2.1 q k v, c.2.2.1, c.2.2.2)
def csA (c : CS) (q k : Nat) (v : Int32) : CS := (c.1, c.2.1, fu2 c.2.2.1 q k v, c.2.2.2)
def csP (c : CS) (q k : Nat) (v : Nat) : CS := (c.1, c.2.1, c.2.2.1, fu2 c.2.2.2 q k v)
def ctT (room j : Nat) : Option (Nat × Nat) := if j = 0 then some (0, 7) else some (1, room)
def ctB (r : Nat) : Option (Nat × Nat) := match r with
  | 0 => some (0, 0) | 1 => some (1, 8) | 2 => some (1, 8) | 3 => some (1, 4) | 4 => some (1, 16) | 5 => some (3, 16) | 6 => some (3, 16) | 7 => some (0, 7) | 8 => some (1, 0) | 9 => some (1, 0)
  | r + 10 => ctT 12 (r % 3)
/-- what lies at each of the 273 offsets -/
def ct (q : Nat) : Option (Nat × Nat) :=
  if q < 108 then (match q with
    | 0 => some (0, 11) | 1 => some (1, 700) | r + 2 => ctB r)
  else if q < 214 then ctB (q - 108)
  else match q - 214 with
    | 0 => some (0, 7) | 1 => some (1, 12) | 2 => some (1, 12) | 3 => some (0, 7) | 4 => some (1, 12) | 5 => some (1, 12) | 6 => some (0, 7) | 7 => some (1, 12) | 8 => some (1, 12) | 9 => some (0, 7) | 10 => some (1, 12) | 11 => some (1, 12)
    | 12 => some (0, 4) | 13 => some (0, 8) | 14 => some (1, 701) | 15 => some (1, 701) | 16 => some (1, 701) | 17 => some (1, 12)
    | 18 => some (0, 6) | 19 => some (1, 20)
    | 20 => some (0, 9) | 21 => some (1, 16) | 22 => some (3, 16) | 23 => some (1, 16) | 24 => some (0, 7) | 25 => some (1, 0) | 26 => some (1, 0)
    | 27 => some (0, 3) | 28 => some (1, 12)
    | 29 => some (0, 10) | 30 => some (1, 24) | 31 => some (1, 24) | 32 => some (1, 24) | 33 => some (1, 24) | 34 => some (1, 24) | 35 => some (1, 24) | 36 => some (2, 24) | 37 => some (1, 73) | 38 => some (1, 73) | 39 => some (1, 181) | 40 => some (0, 7) | 41 => some (1, 60) | 42 => some (1, 60)
    | 43 => some (0, 2) | 44 => some (1, 12) | 45 => some (1, 12) | 46 => some (0, 7) | 47 => some (1, 12) | 48 => some (1, 12)
    | 49 => some (0, 5) | 50 => some (0, 3) | 51 => some (1, 12) | 52 => some (0, 7) | 53 => some (1, 60) | 54 => some (1, 60) | 55 => some (0, 7) | 56 => some (1, 60) | 57 => some (1, 60)
    | 58 => some (0, 1)
    | _ => none
def cst (N : Nat) (h0 : xH) (c : CS) : xH :=
  (fun q k => if N ≤ q ∧ q < N + 273 then c.1 (q - N) k else h0.1 q k, fun q k => if N ≤ q ∧ q < N + 273 then some (N + c.2.1 (q - N) k) else h0.2.1 q k,
   fun q k => if N ≤ q ∧ q < N + 273 then c.2.2.1 (q - N) k else h0.2.2.1 q k, fun q k => if N ≤ q ∧ q < N + 273 then some (N + c.2.2.2 (q - N) k) else h0.2.2.2.1 q k, h0.2.2.2.2)
def CH (ty : xTy) (N : Nat) : Prop := ∀ q, q < 273 → ty (N + q) = ct q
theorem ct_lt {q : Nat} {t : Nat × Nat} (h : ct q = some t) : q < 273 := by
  unfold ct at h
  split at h
  · omega
  · split at h
    · omega
    · split at h <;> first | omega | (cases h; done)
section CLS0
variable {ty : xTy} {N : Nat} {h0 : xH} {c : CS}
theorem kI {q : Nat} (hq : q < 273) (k : Nat) : xI (cst N h0 c) (N + q) k = cI c q k := by simp [xI, cst, cI, hq]
theorem kR {q : Nat} (hq : q < 273) (k : Nat) : xR (cst N h0 c) (N + q) k = some (N + cR c q k) := by simp [xR, cst, cR, hq]
theorem kA {q : Nat} (hq : q < 273) (k : Nat) : xA (cst N h0 c) (N + q) k = cA c q k := by simp [xA, cst, cA, hq]
theorem kP {q : Nat} (hq : q < 273) (k : Nat) : xP (cst N h0 c) (N + q) k = some (N + cP c q k) := by simp [xP, cst, cP, hq]
theorem cst_aux {α β : Type} (f : Nat → Nat → α) (g : α → β) (h : Nat → Nat → β) {q k : Nat} (hq : q < 273) (v : α) :
    xup (fun a b => if N ≤ a ∧ a < N + 273 then g (f (a - N) b) else h a b) (N + q) k (g v) = fun a b => if N ≤ a ∧ a < N + 273 then g (fu2 f q k v (a - N) b) else h a b := by
  funext a b
  unfold xup fu2
  by_cases ha : N ≤ a ∧ a < N + 273
  · simp only [ha, and_self, if_true]
    by_cases h1 : a = N + q
    · subst h1
      by_cases h2 : b = k
      · simp [h2]
      · simp [h2]
    · have h3 : ¬ a - N = q := by omega
      simp [h1, h3]
  · have h1 : ¬ a = N + q := by omega
    simp [ha, h1]
theorem ksI {q : Nat} (hq : q < 273) (k : Nat) (v : Int32) : xsI (cst N h0 c) (N + q) k v = cst N h0 (csI c q k v) := by
  unfold xsI cst csI
  refine Prod.ext ?_ rfl
  exact cst_aux c.1 id h0.1 hq v
theorem ksR {q : Nat} (hq : q < 273) (k v : Nat) : xsR (cst N h0 c) (N + q) k (some (N + v)) = cst N h0 (csR c q k v) := by
  unfold xsR cst csR
  refine Prod.ext rfl (Prod.ext ?_ rfl)
  exact cst_aux c.2.1 (fun x => some (N + x)) h0.2.1 hq v
theorem ksA {q : Nat} (hq : q < 273) (k : Nat) (v : Int32) : xsA (cst N h0 c) (N + q) k v = cst N h0 (csA c q k v) := by
  unfold xsA cst csA
  refine Prod.ext rfl (Prod.ext rfl (Prod.ext ?_ rfl))
  exact cst_aux c.2.2.1 id h0.2.2.1 hq v
theorem ksP {q : Nat} (hq : q < 273) (k v : Nat) : xsP (cst N h0 c) (N + q) k (some (N + v)) = cst N h0 (csP c q k v) := by
  unfold xsP cst csP
  refine Prod.ext rfl (Prod.ext rfl (Prod.ext rfl (Prod.ext ?_ rfl)))
  exact cst_aux c.2.2.2 (fun x => some (N + x)) h0.2.2.2.1 hq v
theorem kga (C : CH ty N) {kd n q : Nat} {z : Int} (ht : ct q = some (kd, n)) (h1 : 0 ≤ z) (h2 : z < n) (h3 : n ≤ 1000) : xga kd ty (cst N h0 c) (N + q) (i32 z) = some (cA c q z.toNat) := by
  rw [xga_i ((C q (ct_lt ht)).trans ht) h1 h2 (by omega), kA (ct_lt ht)]
theorem kwa (C : CH ty N) {kd n q : Nat} {z : Int} {v : Int32} (ht : ct q = some (kd, n)) (h1 : 0 ≤ z) (h2 : z < n) (h3 : n ≤ 1000) : xwa kd ty (cst N h0 c) (N + q) (i32 z) v = some (cst N h0 (csA c q z.toNat v)) := by
  rw [xwa_i ((C q (ct_lt ht)).trans ht) h1 h2 (by omega), ksA (ct_lt ht)]
theorem kgo (C : CH ty N) {q k ci : Nat} (hq : q < 273) (ht : ct (cR c q k) = some (0, ci)) : xgo ty (cst N h0 c) (N + q) k ci = some (N + cR c q k) := by
  unfold xgo
  rw [kR hq]
  simp only
  rw [if_pos ((C _ (ct_lt ht)).trans ht)]
theorem kck (C : CH ty N) {q ci : Nat} (ht : ct q = some (0, ci)) : xck ty (N + q) ci = some () := by
  unfold xck
  rw [if_pos ((C _ (ct_lt ht)).trans ht)]
theorem kgp (C : CH ty N) {q n : Nat} {z : Int} (ht : ct q = some (3, n)) (h1 : 0 ≤ z) (h2 : z < n) (h3 : n ≤ 1000) (h4 : ct (cP c q z.toNat) = some (0, 7)) : xgp ty (cst N h0 c) (N + q) (i32 z) 7 = some (N + cP c q z.toNat) := by
  unfold xgp
  rw [(C q (ct_lt ht)).trans ht]
  simp only [i32_ok h1 h2 (show n ≤ 2147483647 by omega), i32_nat h1 (show z < 2147483648 by omega), and_self, if_true, kP (ct_lt ht)]
  rw [if_pos ((C _ (ct_lt h4)).trans h4)]
theorem kwp (C : CH ty N) {q n v : Nat} {z : Int} (ht : ct q = some (3, n)) (h1 : 0 ≤ z) (h2 : z < n) (h3 : n ≤ 1000) : xwp ty (cst N h0 c) (N + q) (i32 z) (N + v) = some (cst N h0 (csP c q z.toNat v)) := by
  unfold xwp
  rw [(C q (ct_lt ht)).trans ht]
  simp only [i32_ok h1 h2 (show n ≤ 2147483647 by omega), i32_nat h1 (show z < 2147483648 by omega), and_self, if_true]
  rw [ksP (ct_lt ht)]
theorem kln (C : CH ty N) {kd n q : Nat} (ht : ct q = some (kd, n)) : xlen kd ty (N + q) = some (i32 n) := by
  unfold xlen
  rw [(C q (ct_lt ht)).trans ht]
  simp
  rfl
theorem cI_I (q k : Nat) (v : Int32) : cI (csI c q k v) = fu2 (cI c) q k v := rfl
theorem cI_R (q k v : Nat) : cI (csR c q k v) = cI c := rfl
theorem cI_A (q k : Nat) (v : Int32) : cI (csA c q k v) = cI c := rfl
theorem cI_P (q k v : Nat) : cI (csP c q k v) = cI c := rfl
theorem cR_I (q k : Nat) (v : Int32) : cR (csI c q k v) = cR c := rfl
theorem cR_R (q k v : Nat) : cR (csR c q k v) = fu2 (cR c) q k v := rfl
theorem cR_A (q k : Nat) (v : Int32) : cR (csA c q k v) = cR c := rfl
theorem cR_P (q k v : Nat) : cR (csP c q k v) = cR c := rfl
theorem cA_I (q k : Nat) (v : Int32) : cA (csI c q k v) = cA c := rfl
theorem cA_R (q k v : Nat) : cA (csR c q k v) = cA c := rfl
theorem cA_A (q k : Nat) (v : Int32) : cA (csA c q k v) = fu2 (cA c) q k v := rfl
theorem cA_P (q k v : Nat) : cA (csP c q k v) = cA c := rfl
theorem cP_I (q k : Nat) (v : Int32) : cP (csI c q k v) = cP c := rfl
theorem cP_R (q k v : Nat) : cP (csR c q k v) = cP c := rfl
theorem cP_A (q k : Nat) (v : Int32) : cP (csA c q k v) = cP c := rfl
theorem cP_P (q k v : Nat) : cP (csP c q k v) = fu2 (cP c) q k v := rfl
end CLS0
/-- outside lo .. hi nothing has changed, and no reference anywhere -/
def fr (lo hi : Nat) (c c' : CS) : Prop := (∀ q, (q < lo ∨ hi ≤ q) → cI c' q = cI c q ∧ cA c' q = cA c q) ∧ cR c' = cR c ∧ cP c' = cP c
theorem fr.rf {lo hi : Nat} {c : CS} : fr lo hi c c := ⟨fun _ _ => ⟨rfl, rfl⟩, rfl, rfl⟩
theorem fr.tr {lo hi : Nat} {a b c : CS} (h1 : fr lo hi a b) (h2 : fr lo hi b c) : fr lo hi a c := ⟨fun q hq => ⟨((h2.1 q hq).1).trans (h1.1 q hq).1, ((h2.1 q hq).2).trans (h1.1 q hq).2⟩, h2.2.1.trans h1.2.1, h2.2.2.trans h1.2.2⟩
theorem fr.wide {lo hi lo' hi' : Nat} {a b : CS} (h : fr lo hi a b) (h1 : lo' ≤ lo) (h2 : hi ≤ hi') : fr lo' hi' a b := ⟨fun q hq => h.1 q (by omega), h.2⟩
theorem fr.I {lo hi q k : Nat} {v : Int32} {c : CS} (h1 : lo ≤ q) (h2 : q < hi) : fr lo hi c (csI c q k v) := ⟨fun x hx => ⟨by rw [cI_I]; exact fu2_row _ _ (by omega), rfl⟩, rfl, rfl⟩
theorem fr.A {lo hi q k : Nat} {v : Int32} {c : CS} (h1 : lo ≤ q) (h2 : q < hi) : fr lo hi c (csA c q k v) := ⟨fun x hx => ⟨rfl, by rw [cA_A]; exact fu2_row _ _ (by omega)⟩, rfl, rfl⟩
/-- at t lies a term: its codes, each one's arity -/
def isT (c : CS) (t room : Nat) (ar : Nat → Nat) (T : List Nat) : Prop := ct t = some (0, 7) ∧ ct (t + 1) = some (1, room) ∧ ct (t + 2) = some (1, room) ∧ cR c t 0 = t + 1 ∧ cR c t 1 = t + 2 ∧ T.length ≤ room ∧ room ≤ 60 ∧ cI c t 2 = i32 T.length ∧ seg (cA c (t + 1)) 0 T ∧ seg (cA c (t + 2)) 0 (T.map ar)
theorem isT.keep {c c' : CS} {t room : Nat} {ar : Nat → Nat} {T : List Nat} (h : isT c t room ar T) (e1 : cI c' t = cI c t) (e2 : cA c' (t + 1) = cA c (t + 1)) (e3 : cA c' (t + 2) = cA c (t + 2)) (e4 : cR c' t = cR c t) : isT c' t room ar T := by
  unfold isT at *
  rw [e1, e2, e3, e4]
  exact h
theorem isT.fr {c c' : CS} {t room lo hi : Nat} {ar : Nat → Nat} {T : List Nat} (h : isT c t room ar T) (f : fr lo hi c c') (hd : t + 3 ≤ lo ∨ hi ≤ t) : isT c' t room ar T :=
  h.keep (f.1 t (by omega)).1 (f.1 (t + 1) (by omega)).2 (f.1 (t + 2) (by omega)).2 (by rw [f.2.1])

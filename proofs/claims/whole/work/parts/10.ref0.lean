/-! THE REFERENCE's object as a state of functions: I its ints, A its rows by the field's number, J its long -/
def ml : Nat → Nat
  | 0 => 700 | 3 => 14 | 18 => 16 | 19 => 16 | 20 => 8 | 21 => 32 | 22 => 32 | 23 => 384 | 24 => 32 | 25 => 384 | 27 => 60 | 29 => 12 | 31 => 12
  | 32 => 400 | 34 => 48 | 35 => 4000 | 36 => 4000 | 37 => 4000 | 38 => 61 | 40 => 48 | 44 => 16 | 46 => 12 | 47 => 12 | 48 => 60 | 52 => 60 | 55 => 60 | 57 => 20
  | _ => 0
def fu {α : Type} (f : Nat → α) (k : Nat) (v : α) : Nat → α := fun x => if x = k then v else f x
def fu2 {α : Type} (f : Nat → Nat → α) (k i : Nat) (v : α) : Nat → Nat → α := fun x y => if x = k ∧ y = i then v else f x y
def rst (mm mi : Nat → Nat) (h0 : xH) (M : Nat) (I : Nat → Int32) (A : Nat → Nat → Int32) (J : Nat → Int64) : xH :=
  (fun q k => if q = M then I k else h0.1 q k, h0.2.1, fun q i => if 0 < ml (mi q) ∧ mm (mi q) = q then A (mi q) i else h0.2.2.1 q i, h0.2.2.2.1, fun q k => if q = M then J k else h0.2.2.2.2 q k)
def MH (ty : xTy) (M : Nat) (mm mi : Nat → Nat) (h0 : xH) : Prop := ty M = some (0, 12) ∧ ∀ k, 0 < ml k → xR h0 M k = some (mm k) ∧ ty (mm k) = some (1, ml k) ∧ mi (mm k) = k
section REF0
variable {ty : xTy} {M : Nat} {mm mi : Nat → Nat} {h0 : xH} {I : Nat → Int32} {A : Nat → Nat → Int32} {J : Nat → Int64}
theorem rI (k : Nat) : xI (rst mm mi h0 M I A J) M k = I k := by simp [xI, rst]
theorem rJ (k : Nat) : xJ (rst mm mi h0 M I A J) M k = J k := by simp [xJ, rst]
theorem rsI (k : Nat) (v : Int32) : xsI (rst mm mi h0 M I A J) M k v = rst mm mi h0 M (fu I k v) A J := by
  unfold xsI rst
  refine Prod.ext ?_ rfl
  funext q j
  show xup _ M k v q j = _
  unfold xup fu
  by_cases hq : q = M
  · subst hq
    by_cases hj : j = k
    · simp [hj]
    · simp [hj]
  · simp [hq]
theorem rsJ (k : Nat) (v : Int64) : xsJ (rst mm mi h0 M I A J) M k v = rst mm mi h0 M I A (fu J k v) := by
  unfold xsJ rst
  refine Prod.ext rfl (Prod.ext rfl (Prod.ext rfl (Prod.ext rfl ?_)))
  funext q j
  show xup _ M k v q j = _
  unfold xup fu
  by_cases hq : q = M
  · subst hq
    by_cases hj : j = k
    · simp [hj]
    · simp [hj]
  · simp [hq]
theorem rA_of (H : MH ty M mm mi h0) {k : Nat} (hk : 0 < ml k) (i : Nat) : xA (rst mm mi h0 M I A J) (mm k) i = A k i := by
  have e := (H.2 k hk).2.2
  simp [xA, rst, e, hk]
theorem ga_of (H : MH ty M mm mi h0) {k : Nat} {z : Int} {n : Nat} (hk : 0 < ml k) (h1 : 0 ≤ z) (h2 : z < n) (hn : ml k = n ∧ n ≤ 2147483647) : xga 1 ty (rst mm mi h0 M I A J) (mm k) (i32 z) = some (A k z.toNat) := by
  rw [xga_i (H.2 k hk).2.1 h1 (by rw [hn.1]; exact h2) (by rw [hn.1]; exact hn.2), rA_of H hk]
theorem wa_of (H : MH ty M mm mi h0) {k : Nat} {z : Int} {n : Nat} {v : Int32} (hk : 0 < ml k) (h1 : 0 ≤ z) (h2 : z < n) (hn : ml k = n ∧ n ≤ 2147483647) : xwa 1 ty (rst mm mi h0 M I A J) (mm k) (i32 z) v = some (rst mm mi h0 M I (fu2 A k z.toNat v) J) := by
  rw [xwa_i (H.2 k hk).2.1 h1 (by rw [hn.1]; exact h2) (by rw [hn.1]; exact hn.2)]
  congr 1
  unfold xsA rst
  refine Prod.ext rfl (Prod.ext rfl (Prod.ext ?_ rfl))
  funext q j
  show xup _ (mm k) z.toNat v q j = _
  have e := (H.2 k hk).2.2
  unfold xup fu2
  by_cases hq : q = mm k
  · subst hq
    by_cases hj : j = z.toNat
    · simp [hj, e, hk]
    · simp [hj, e, hk]
  · have hne : ∀ (w : 0 < ml (mi q) ∧ mm (mi q) = q), ¬ mi q = k := fun w z => hq (by rw [← w.2, z])
    simp only [hq, false_and, if_false]
    by_cases w : 0 < ml (mi q) ∧ mm (mi q) = q
    · simp [w, hne w]
    · simp [w]
theorem rr_0 (H : MH ty M mm mi h0) : xR (rst mm mi h0 M I A J) M 0 = some (mm 0) := (H.2 0 (by decide)).1
theorem ga_0 (H : MH ty M mm mi h0) {z : Int} (h1 : 0 ≤ z) (h2 : z < 700) : xga 1 ty (rst mm mi h0 M I A J) (mm 0) (i32 z) = some (A 0 z.toNat) := ga_of H (k := 0) (by decide) h1 h2 (by decide)
theorem wa_0 (H : MH ty M mm mi h0) {z : Int} {v : Int32} (h1 : 0 ≤ z) (h2 : z < 700) : xwa 1 ty (rst mm mi h0 M I A J) (mm 0) (i32 z) v = some (rst mm mi h0 M I (fu2 A 0 z.toNat v) J) := wa_of H (k := 0) (by decide) h1 h2 (by decide)
theorem rr_3 (H : MH ty M mm mi h0) : xR (rst mm mi h0 M I A J) M 3 = some (mm 3) := (H.2 3 (by decide)).1
theorem ga_3 (H : MH ty M mm mi h0) {z : Int} (h1 : 0 ≤ z) (h2 : z < 14) : xga 1 ty (rst mm mi h0 M I A J) (mm 3) (i32 z) = some (A 3 z.toNat) := ga_of H (k := 3) (by decide) h1 h2 (by decide)
theorem wa_3 (H : MH ty M mm mi h0) {z : Int} {v : Int32} (h1 : 0 ≤ z) (h2 : z < 14) : xwa 1 ty (rst mm mi h0 M I A J) (mm 3) (i32 z) v = some (rst mm mi h0 M I (fu2 A 3 z.toNat v) J) := wa_of H (k := 3) (by decide) h1 h2 (by decide)
theorem rr_18 (H : MH ty M mm mi h0) : xR (rst mm mi h0 M I A J) M 18 = some (mm 18) := (H.2 18 (by decide)).1
theorem ga_18 (H : MH ty M mm mi h0) {z : Int} (h1 : 0 ≤ z) (h2 : z < 16) : xga 1 ty (rst mm mi h0 M I A J) (mm 18) (i32 z) = some (A 18 z.toNat) := ga_of H (k := 18) (by decide) h1 h2 (by decide)
theorem wa_18 (H : MH ty M mm mi h0) {z : Int} {v : Int32} (h1 : 0 ≤ z) (h2 : z < 16) : xwa 1 ty (rst mm mi h0 M I A J) (mm 18) (i32 z) v = some (rst mm mi h0 M I (fu2 A 18 z.toNat v) J) := wa_of H (k := 18) (by decide) h1 h2 (by decide)
theorem rr_19 (H : MH ty M mm mi h0) : xR (rst mm mi h0 M I A J) M 19 = some (mm 19) := (H.2 19 (by decide)).1
theorem ga_19 (H : MH ty M mm mi h0) {z : Int} (h1 : 0 ≤ z) (h2 : z < 16) : xga 1 ty (rst mm mi h0 M I A J) (mm 19) (i32 z) = some (A 19 z.toNat) := ga_of H (k := 19) (by decide) h1 h2 (by decide)
theorem wa_19 (H : MH ty M mm mi h0) {z : Int} {v : Int32} (h1 : 0 ≤ z) (h2 : z < 16) : xwa 1 ty (rst mm mi h0 M I A J) (mm 19) (i32 z) v = some (rst mm mi h0 M I (fu2 A 19 z.toNat v) J) := wa_of H (k := 19) (by decide) h1 h2 (by decide)
theorem rr_20 (H : MH ty M mm mi h0) : xR (rst mm mi h0 M I A J) M 20 = some (mm 20) := (H.2 20 (by decide)).1
theorem ga_20 (H : MH ty M mm mi h0) {z : Int} (h1 : 0 ≤ z) (h2 : z < 8) : xga 1 ty (rst mm mi h0 M I A J) (mm 20) (i32 z) = some (A 20 z.toNat) := ga_of H (k := 20) (by decide) h1 h2 (by decide)
theorem wa_20 (H : MH ty M mm mi h0) {z : Int} {v : Int32} (h1 : 0 ≤ z) (h2 : z < 8) : xwa 1 ty (rst mm mi h0 M I A J) (mm 20) (i32 z) v = some (rst mm mi h0 M I (fu2 A 20 z.toNat v) J) := wa_of H (k := 20) (by decide) h1 h2 (by decide)
theorem rr_21 (H : MH ty M mm mi h0) : xR (rst mm mi h0 M I A J) M 21 = some (mm 21) := (H.2 21 (by decide)).1
theorem ga_21 (H : MH ty M mm mi h0) {z : Int} (h1 : 0 ≤ z) (h2 : z < 32) : xga 1 ty (rst mm mi h0 M I A J) (mm 21) (i32 z) = some (A 21 z.toNat) := ga_of H (k := 21) (by decide) h1 h2 (by decide)
theorem wa_21 (H : MH ty M mm mi h0) {z : Int} {v : Int32} (h1 : 0 ≤ z) (h2 : z < 32) : xwa 1 ty (rst mm mi h0 M I A J) (mm 21) (i32 z) v = some (rst mm mi h0 M I (fu2 A 21 z.toNat v) J) := wa_of H (k := 21) (by decide) h1 h2 (by decide)
theorem rr_22 (H : MH ty M mm mi h0) : xR (rst mm mi h0 M I A J) M 22 = some (mm 22) := (H.2 22 (by decide)).1
theorem ga_22 (H : MH ty M mm mi h0) {z : Int} (h1 : 0 ≤ z) (h2 : z < 32) : xga 1 ty (rst mm mi h0 M I A J) (mm 22) (i32 z) = some (A 22 z.toNat) := ga_of H (k := 22) (by decide) h1 h2 (by decide)
theorem wa_22 (H : MH ty M mm mi h0) {z : Int} {v : Int32} (h1 : 0 ≤ z) (h2 : z < 32) : xwa 1 ty (rst mm mi h0 M I A J) (mm 22) (i32 z) v = some (rst mm mi h0 M I (fu2 A 22 z.toNat v) J) := wa_of H (k := 22) (by decide) h1 h2 (by decide)
theorem rr_23 (H : MH ty M mm mi h0) : xR (rst mm mi h0 M I A J) M 23 = some (mm 23) := (H.2 23 (by decide)).1
theorem ga_23 (H : MH ty M mm mi h0) {z : Int} (h1 : 0 ≤ z) (h2 : z < 384) : xga 1 ty (rst mm mi h0 M I A J) (mm 23) (i32 z) = some (A 23 z.toNat) := ga_of H (k := 23) (by decide) h1 h2 (by decide)
theorem wa_23 (H : MH ty M mm mi h0) {z : Int} {v : Int32} (h1 : 0 ≤ z) (h2 : z < 384) : xwa 1 ty (rst mm mi h0 M I A J) (mm 23) (i32 z) v = some (rst mm mi h0 M I (fu2 A 23 z.toNat v) J) := wa_of H (k := 23) (by decide) h1 h2 (by decide)
theorem rr_24 (H : MH ty M mm mi h0) : xR (rst mm mi h0 M I A J) M 24 = some (mm 24) := (H.2 24 (by decide)).1
theorem ga_24 (H : MH ty M mm mi h0) {z : Int} (h1 : 0 ≤ z) (h2 : z < 32) : xga 1 ty (rst mm mi h0 M I A J) (mm 24) (i32 z) = some (A 24 z.toNat) := ga_of H (k := 24) (by decide) h1 h2 (by decide)
theorem wa_24 (H : MH ty M mm mi h0) {z : Int} {v : Int32} (h1 : 0 ≤ z) (h2 : z < 32) : xwa 1 ty (rst mm mi h0 M I A J) (mm 24) (i32 z) v = some (rst mm mi h0 M I (fu2 A 24 z.toNat v) J) := wa_of H (k := 24) (by decide) h1 h2 (by decide)
theorem rr_25 (H : MH ty M mm mi h0) : xR (rst mm mi h0 M I A J) M 25 = some (mm 25) := (H.2 25 (by decide)).1
theorem ga_25 (H : MH ty M mm mi h0) {z : Int} (h1 : 0 ≤ z) (h2 : z < 384) : xga 1 ty (rst mm mi h0 M I A J) (mm 25) (i32 z) = some (A 25 z.toNat) := ga_of H (k := 25) (by decide) h1 h2 (by decide)
theorem wa_25 (H : MH ty M mm mi h0) {z : Int} {v : Int32} (h1 : 0 ≤ z) (h2 : z < 384) : xwa 1 ty (rst mm mi h0 M I A J) (mm 25) (i32 z) v = some (rst mm mi h0 M I (fu2 A 25 z.toNat v) J) := wa_of H (k := 25) (by decide) h1 h2 (by decide)
theorem rr_27 (H : MH ty M mm mi h0) : xR (rst mm mi h0 M I A J) M 27 = some (mm 27) := (H.2 27 (by decide)).1
theorem ga_27 (H : MH ty M mm mi h0) {z : Int} (h1 : 0 ≤ z) (h2 : z < 60) : xga 1 ty (rst mm mi h0 M I A J) (mm 27) (i32 z) = some (A 27 z.toNat) := ga_of H (k := 27) (by decide) h1 h2 (by decide)
theorem wa_27 (H : MH ty M mm mi h0) {z : Int} {v : Int32} (h1 : 0 ≤ z) (h2 : z < 60) : xwa 1 ty (rst mm mi h0 M I A J) (mm 27) (i32 z) v = some (rst mm mi h0 M I (fu2 A 27 z.toNat v) J) := wa_of H (k := 27) (by decide) h1 h2 (by decide)
theorem rr_29 (H : MH ty M mm mi h0) : xR (rst mm mi h0 M I A J) M 29 = some (mm 29) := (H.2 29 (by decide)).1
theorem ga_29 (H : MH ty M mm mi h0) {z : Int} (h1 : 0 ≤ z) (h2 : z < 12) : xga 1 ty (rst mm mi h0 M I A J) (mm 29) (i32 z) = some (A 29 z.toNat) := ga_of H (k := 29) (by decide) h1 h2 (by decide)
theorem wa_29 (H : MH ty M mm mi h0) {z : Int} {v : Int32} (h1 : 0 ≤ z) (h2 : z < 12) : xwa 1 ty (rst mm mi h0 M I A J) (mm 29) (i32 z) v = some (rst mm mi h0 M I (fu2 A 29 z.toNat v) J) := wa_of H (k := 29) (by decide) h1 h2 (by decide)
theorem rr_31 (H : MH ty M mm mi h0) : xR (rst mm mi h0 M I A J) M 31 = some (mm 31) := (H.2 31 (by decide)).1
theorem ga_31 (H : MH ty M mm mi h0) {z : Int} (h1 : 0 ≤ z) (h2 : z < 12) : xga 1 ty (rst mm mi h0 M I A J) (mm 31) (i32 z) = some (A 31 z.toNat) := ga_of H (k := 31) (by decide) h1 h2 (by decide)
theorem wa_31 (H : MH ty M mm mi h0) {z : Int} {v : Int32} (h1 : 0 ≤ z) (h2 : z < 12) : xwa 1 ty (rst mm mi h0 M I A J) (mm 31) (i32 z) v = some (rst mm mi h0 M I (fu2 A 31 z.toNat v) J) := wa_of H (k := 31) (by decide) h1 h2 (by decide)
theorem rr_32 (H : MH ty M mm mi h0) : xR (rst mm mi h0 M I A J) M 32 = some (mm 32) := (H.2 32 (by decide)).1
theorem ga_32 (H : MH ty M mm mi h0) {z : Int} (h1 : 0 ≤ z) (h2 : z < 400) : xga 1 ty (rst mm mi h0 M I A J) (mm 32) (i32 z) = some (A 32 z.toNat) := ga_of H (k := 32) (by decide) h1 h2 (by decide)
theorem wa_32 (H : MH ty M mm mi h0) {z : Int} {v : Int32} (h1 : 0 ≤ z) (h2 : z < 400) : xwa 1 ty (rst mm mi h0 M I A J) (mm 32) (i32 z) v = some (rst mm mi h0 M I (fu2 A 32 z.toNat v) J) := wa_of H (k := 32) (by decide) h1 h2 (by decide)
theorem rr_34 (H : MH ty M mm mi h0) : xR (rst mm mi h0 M I A J) M 34 = some (mm 34) := (H.2 34 (by decide)).1
theorem ga_34 (H : MH ty M mm mi h0) {z : Int} (h1 : 0 ≤ z) (h2 : z < 48) : xga 1 ty (rst mm mi h0 M I A J) (mm 34) (i32 z) = some (A 34 z.toNat) := ga_of H (k := 34) (by decide) h1 h2 (by decide)
theorem wa_34 (H : MH ty M mm mi h0) {z : Int} {v : Int32} (h1 : 0 ≤ z) (h2 : z < 48) : xwa 1 ty (rst mm mi h0 M I A J) (mm 34) (i32 z) v = some (rst mm mi h0 M I (fu2 A 34 z.toNat v) J) := wa_of H (k := 34) (by decide) h1 h2 (by decide)
theorem rr_35 (H : MH ty M mm mi h0) : xR (rst mm mi h0 M I A J) M 35 = some (mm 35) := (H.2 35 (by decide)).1
theorem ga_35 (H : MH ty M mm mi h0) {z : Int} (h1 : 0 ≤ z) (h2 : z < 4000) : xga 1 ty (rst mm mi h0 M I A J) (mm 35) (i32 z) = some (A 35 z.toNat) := ga_of H (k := 35) (by decide) h1 h2 (by decide)
theorem wa_35 (H : MH ty M mm mi h0) {z : Int} {v : Int32} (h1 : 0 ≤ z) (h2 : z < 4000) : xwa 1 ty (rst mm mi h0 M I A J) (mm 35) (i32 z) v = some (rst mm mi h0 M I (fu2 A 35 z.toNat v) J) := wa_of H (k := 35) (by decide) h1 h2 (by decide)
theorem rr_36 (H : MH ty M mm mi h0) : xR (rst mm mi h0 M I A J) M 36 = some (mm 36) := (H.2 36 (by decide)).1
theorem ga_36 (H : MH ty M mm mi h0) {z : Int} (h1 : 0 ≤ z) (h2 : z < 4000) : xga 1 ty (rst mm mi h0 M I A J) (mm 36) (i32 z) = some (A 36 z.toNat) := ga_of H (k := 36) (by decide) h1 h2 (by decide)
theorem wa_36 (H : MH ty M mm mi h0) {z : Int} {v : Int32} (h1 : 0 ≤ z) (h2 : z < 4000) : xwa 1 ty (rst mm mi h0 M I A J) (mm 36) (i32 z) v = some (rst mm mi h0 M I (fu2 A 36 z.toNat v) J) := wa_of H (k := 36) (by decide) h1 h2 (by decide)
theorem rr_37 (H : MH ty M mm mi h0) : xR (rst mm mi h0 M I A J) M 37 = some (mm 37) := (H.2 37 (by decide)).1
theorem ga_37 (H : MH ty M mm mi h0) {z : Int} (h1 : 0 ≤ z) (h2 : z < 4000) : xga 1 ty (rst mm mi h0 M I A J) (mm 37) (i32 z) = some (A 37 z.toNat) := ga_of H (k := 37) (by decide) h1 h2 (by decide)
theorem wa_37 (H : MH ty M mm mi h0) {z : Int} {v : Int32} (h1 : 0 ≤ z) (h2 : z < 4000) : xwa 1 ty (rst mm mi h0 M I A J) (mm 37) (i32 z) v = some (rst mm mi h0 M I (fu2 A 37 z.toNat v) J) := wa_of H (k := 37) (by decide) h1 h2 (by decide)
theorem rr_38 (H : MH ty M mm mi h0) : xR (rst mm mi h0 M I A J) M 38 = some (mm 38) := (H.2 38 (by decide)).1
theorem ga_38 (H : MH ty M mm mi h0) {z : Int} (h1 : 0 ≤ z) (h2 : z < 61) : xga 1 ty (rst mm mi h0 M I A J) (mm 38) (i32 z) = some (A 38 z.toNat) := ga_of H (k := 38) (by decide) h1 h2 (by decide)
theorem wa_38 (H : MH ty M mm mi h0) {z : Int} {v : Int32} (h1 : 0 ≤ z) (h2 : z < 61) : xwa 1 ty (rst mm mi h0 M I A J) (mm 38) (i32 z) v = some (rst mm mi h0 M I (fu2 A 38 z.toNat v) J) := wa_of H (k := 38) (by decide) h1 h2 (by decide)
theorem rr_40 (H : MH ty M mm mi h0) : xR (rst mm mi h0 M I A J) M 40 = some (mm 40) := (H.2 40 (by decide)).1
theorem ga_40 (H : MH ty M mm mi h0) {z : Int} (h1 : 0 ≤ z) (h2 : z < 48) : xga 1 ty (rst mm mi h0 M I A J) (mm 40) (i32 z) = some (A 40 z.toNat) := ga_of H (k := 40) (by decide) h1 h2 (by decide)
theorem wa_40 (H : MH ty M mm mi h0) {z : Int} {v : Int32} (h1 : 0 ≤ z) (h2 : z < 48) : xwa 1 ty (rst mm mi h0 M I A J) (mm 40) (i32 z) v = some (rst mm mi h0 M I (fu2 A 40 z.toNat v) J) := wa_of H (k := 40) (by decide) h1 h2 (by decide)
theorem rr_44 (H : MH ty M mm mi h0) : xR (rst mm mi h0 M I A J) M 44 = some (mm 44) := (H.2 44 (by decide)).1
theorem ga_44 (H : MH ty M mm mi h0) {z : Int} (h1 : 0 ≤ z) (h2 : z < 16) : xga 1 ty (rst mm mi h0 M I A J) (mm 44) (i32 z) = some (A 44 z.toNat) := ga_of H (k := 44) (by decide) h1 h2 (by decide)
theorem wa_44 (H : MH ty M mm mi h0) {z : Int} {v : Int32} (h1 : 0 ≤ z) (h2 : z < 16) : xwa 1 ty (rst mm mi h0 M I A J) (mm 44) (i32 z) v = some (rst mm mi h0 M I (fu2 A 44 z.toNat v) J) := wa_of H (k := 44) (by decide) h1 h2 (by decide)
theorem rr_46 (H : MH ty M mm mi h0) : xR (rst mm mi h0 M I A J) M 46 = some (mm 46) := (H.2 46 (by decide)).1
theorem ga_46 (H : MH ty M mm mi h0) {z : Int} (h1 : 0 ≤ z) (h2 : z < 12) : xga 1 ty (rst mm mi h0 M I A J) (mm 46) (i32 z) = some (A 46 z.toNat) := ga_of H (k := 46) (by decide) h1 h2 (by decide)
theorem wa_46 (H : MH ty M mm mi h0) {z : Int} {v : Int32} (h1 : 0 ≤ z) (h2 : z < 12) : xwa 1 ty (rst mm mi h0 M I A J) (mm 46) (i32 z) v = some (rst mm mi h0 M I (fu2 A 46 z.toNat v) J) := wa_of H (k := 46) (by decide) h1 h2 (by decide)
theorem rr_47 (H : MH ty M mm mi h0) : xR (rst mm mi h0 M I A J) M 47 = some (mm 47) := (H.2 47 (by decide)).1
theorem ga_47 (H : MH ty M mm mi h0) {z : Int} (h1 : 0 ≤ z) (h2 : z < 12) : xga 1 ty (rst mm mi h0 M I A J) (mm 47) (i32 z) = some (A 47 z.toNat) := ga_of H (k := 47) (by decide) h1 h2 (by decide)
theorem wa_47 (H : MH ty M mm mi h0) {z : Int} {v : Int32} (h1 : 0 ≤ z) (h2 : z < 12) : xwa 1 ty (rst mm mi h0 M I A J) (mm 47) (i32 z) v = some (rst mm mi h0 M I (fu2 A 47 z.toNat v) J) := wa_of H (k := 47) (by decide) h1 h2 (by decide)
theorem rr_48 (H : MH ty M mm mi h0) : xR (rst mm mi h0 M I A J) M 48 = some (mm 48) := (H.2 48 (by decide)).1
theorem ga_48 (H : MH ty M mm mi h0) {z : Int} (h1 : 0 ≤ z) (h2 : z < 60) : xga 1 ty (rst mm mi h0 M I A J) (mm 48) (i32 z) = some (A 48 z.toNat) := ga_of H (k := 48) (by decide) h1 h2 (by decide)
theorem wa_48 (H : MH ty M mm mi h0) {z : Int} {v : Int32} (h1 : 0 ≤ z) (h2 : z < 60) : xwa 1 ty (rst mm mi h0 M I A J) (mm 48) (i32 z) v = some (rst mm mi h0 M I (fu2 A 48 z.toNat v) J) := wa_of H (k := 48) (by decide) h1 h2 (by decide)
theorem rr_52 (H : MH ty M mm mi h0) : xR (rst mm mi h0 M I A J) M 52 = some (mm 52) := (H.2 52 (by decide)).1
theorem ga_52 (H : MH ty M mm mi h0) {z : Int} (h1 : 0 ≤ z) (h2 : z < 60) : xga 1 ty (rst mm mi h0 M I A J) (mm 52) (i32 z) = some (A 52 z.toNat) := ga_of H (k := 52) (by decide) h1 h2 (by decide)
theorem wa_52 (H : MH ty M mm mi h0) {z : Int} {v : Int32} (h1 : 0 ≤ z) (h2 : z < 60) : xwa 1 ty (rst mm mi h0 M I A J) (mm 52) (i32 z) v = some (rst mm mi h0 M I (fu2 A 52 z.toNat v) J) := wa_of H (k := 52) (by decide) h1 h2 (by decide)
theorem rr_55 (H : MH ty M mm mi h0) : xR (rst mm mi h0 M I A J) M 55 = some (mm 55) := (H.2 55 (by decide)).1
theorem ga_55 (H : MH ty M mm mi h0) {z : Int} (h1 : 0 ≤ z) (h2 : z < 60) : xga 1 ty (rst mm mi h0 M I A J) (mm 55) (i32 z) = some (A 55 z.toNat) := ga_of H (k := 55) (by decide) h1 h2 (by decide)
theorem wa_55 (H : MH ty M mm mi h0) {z : Int} {v : Int32} (h1 : 0 ≤ z) (h2 : z < 60) : xwa 1 ty (rst mm mi h0 M I A J) (mm 55) (i32 z) v = some (rst mm mi h0 M I (fu2 A 55 z.toNat v) J) := wa_of H (k := 55) (by decide) h1 h2 (by decide)
theorem rr_57 (H : MH ty M mm mi h0) : xR (rst mm mi h0 M I A J) M 57 = some (mm 57) := (H.2 57 (by decide)).1
theorem ga_57 (H : MH ty M mm mi h0) {z : Int} (h1 : 0 ≤ z) (h2 : z < 20) : xga 1 ty (rst mm mi h0 M I A J) (mm 57) (i32 z) = some (A 57 z.toNat) := ga_of H (k := 57) (by decide) h1 h2 (by decide)
theorem wa_57 (H : MH ty M mm mi h0) {z : Int} {v : Int32} (h1 : 0 ≤ z) (h2 : z < 20) : xwa 1 ty (rst mm mi h0 M I A J) (mm 57) (i32 z) v = some (rst mm mi h0 M I (fu2 A 57 z.toNat v) J) := wa_of H (k := 57) (by decide) h1 h2 (by decide)
end REF0

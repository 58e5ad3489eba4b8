/-! BOTH at once: the class and the model in one heap -/
def xAg (h h2 : xH) (q : Nat) (t : Nat × Nat) : Prop := match t.1 with
  | 0 => ∀ r : vw_C, xcl[t.2]? = some r → ∀ k, k < r.2.2 → xval (xty t.2 k) h q k = xval (xty t.2 k) h2 q k
  | 1 => ∀ j, xA h q j = xA h2 q j
  | 2 => ∀ j, xA h q j = xA h2 q j
  | 3 => ∀ j, j < t.2 → xP h q j = xP h2 q j
  | _ => ∀ j, xJ h q j = xJ h2 q j
theorem arrV_cg {cI : ClassId} {n : Nat} {f g : Nat → Value} (h : ∀ j, j < n → f j = g j) : arrV cI n f = arrV cI n g := by
  unfold arrV
  have e : (fun j : Fin n => f j.val) = fun j : Fin n => g j.val := funext fun j => h j.val j.isLt
  rw [e]
theorem xRep.eq {D : xD} {ty : xTy} {h h2 : xH} {H : Heap} (hR : xRep D ty h H) (he : ∀ q t, ty q = some t → xAg h h2 q t) : xRep D ty h2 H := by
  intro q t ht
  have a := hR q t ht
  have b := he q t ht
  obtain ⟨t1, t2⟩ := t
  match t1, a, b with
  | 0, ⟨r, h1, h2⟩, b => exact ⟨r, h1, t_OB.to h2 (fun k hk => b r h1 k hk)⟩
  | 1, a, b =>
    refine Eq.trans a (congrArg some (arrV_cg fun j _ => ?_))
    show Value.int _ = Value.int _
    rw [b j]
  | 2, a, b =>
    refine Eq.trans a (congrArg some (arrV_cg fun j _ => ?_))
    show Value.int _ = Value.int _
    rw [b j]
  | 3, a, b =>
    refine Eq.trans a (congrArg some (arrV_cg fun j hj => ?_))
    show va_rf _ = va_rf _
    rw [b j hj]
  | n + 4, a, b =>
    refine Eq.trans a (congrArg some (arrV_cg fun j _ => ?_))
    show Value.long _ = Value.long _
    rw [b j]
def c00 : CS := (fun q k => i32 ((lkp iC q k).getD 0), fun q k => (lkp rC q k).getD 0, fun _ _ => 0, fun q k => (lkp pC q k).getD 0)
theorem lkp_skip {α : Type} {l l2 : List (Nat × Nat × α)} {q k : Nat} (h : ∀ x ∈ l, x.1 ≠ q) : lkp (l ++ l2) q k = lkp l2 q k := by
  induction l with
  | nil => rfl
  | cons x t ih =>
    rw [List.cons_append, lkp, if_neg (fun z => h x List.mem_cons_self z.1)]
    exact ih (fun y hy => h y (List.mem_cons_of_mem _ hy))
theorem n12_r : ∀ x ∈ nr_X12 273, x.1 = 273 := by decide +kernel
theorem n12_i : ∀ x ∈ ni_X12 273, x.1 = 273 := by decide +kernel
theorem n12_a : ∀ x ∈ na_X12 273, x.1 = 275 := by decide +kernel
def chk (q : Nat) : Bool := match ct q with
  | some (0, ci) => (List.range 16).all (fun k => (match xty ci k with
    | .int => true
    | .boolean => true
    | .long => true
    | _ => (lkp rC q k).isSome) || decide ((match xcl[ci]? with
      | some r => r.2.2
      | none => 0) ≤ k))
  | some (3, n) => decide (n ≤ 16) && (List.range n).all (fun j => (lkp pC q j).isSome)
  | _ => true
theorem chk_all : ∀ q, q < 273 → chk q = true := by decide +kernel
theorem xcl_le : ∀ ci, ci < 12 → (match xcl[ci]? with
      | some r => r.2.2
      | none => 0) ≤ 16 := by decide +kernel
theorem ct_ci : ∀ q, q < 273 → (match ct q with
  | some (0, ci) => decide (ci < 12)
  | some (k, _) => decide (k < 4)
  | none => false) = true := by decide +kernel
section BOTH
variable {N : Nat} {D : xD} {H : Heap} {I : Nat → Int32} {A : Nat → Nat → Int32} {J : Nat → Int64}
theorem w_I {q : Nat} (hq : q < 273) (k : Nat) : (rst (mmL N) (miL N) (hL N) (N + 273) I A J).1 (N + q) k = i32 ((lkp iC q k).getD 0) := by
  show (if N + q = N + 273 then I k else (hL N).1 (N + q) k) = _
  rw [if_neg (by omega)]
  unfold hL
  rw [hOf_gI, lkp_skip (fun x hx => by rw [n12_i x hx]; omega)]
theorem w_R {q : Nat} (hq : q < 273) (k : Nat) : (rst (mmL N) (miL N) (hL N) (N + 273) I A J).2.1 (N + q) k = (lkp rC q k).map (N + ·) := by
  show (hL N).2.1 (N + q) k = _
  unfold hL
  show (if N ≤ N + q then _ else _) = _
  rw [if_pos (by omega), show N + q - N = q by omega]
  rw [lkp_skip (fun x hx => by rw [n12_r x hx]; omega)]
theorem w_P {q : Nat} (k : Nat) : (rst (mmL N) (miL N) (hL N) (N + 273) I A J).2.2.2.1 (N + q) k = (lkp pC q k).map (N + ·) := by
  show (hL N).2.2.2.1 (N + q) k = _
  unfold hL
  show (if N ≤ N + q then _ else _) = _
  rw [if_pos (by omega), show N + q - N = q by omega]
theorem rst_A {mm mi : Nat → Nat} {h : xH} {M : Nat} (q k : Nat) : (rst mm mi h M I A J).2.2.1 q k = if 0 < ml (mi q) ∧ mm (mi q) = q then A (mi q) k else h.2.2.1 q k := rfl
theorem w_A {q : Nat} (hq : q < 273) (k : Nat) : (rst (mmL N) (miL N) (hL N) (N + 273) I A J).2.2.1 (N + q) k = 0 := by
  rw [rst_A, if_neg (fun z => by have := z.2; unfold mmL at this; omega)]
  unfold hL
  rw [hOf_gA, lkp_skip (fun x hx => by rw [n12_a x hx]; omega)]
  rfl
theorem w_start (hR : xRep D (tyL N) (rst (mmL N) (miL N) (hL N) (N + 273) I A J) H) : xRep D (tyL N) (cst N (rst (mmL N) (miL N) (hL N) (N + 273) I A J) c00) H := by
  refine hR.eq (fun q t ht => ?_)
  have hge : N ≤ q := by
    rcases Nat.lt_or_ge q N with h | h
    · rw [tyL_lt h] at ht; cases ht
    · exact h
  obtain ⟨o, rfl⟩ : ∃ o, q = N + o := ⟨q - N, by omega⟩
  rw [tyL_at] at ht
  rcases Nat.lt_or_ge o 273 with ho | ho
  · rw [shL_ct o ho] at ht
    have h1 := chk_all o ho
    have h2 := ct_ci o ho
    unfold chk at h1
    rw [ht] at h1 h2
    have eI : ∀ k, xI (rst (mmL N) (miL N) (hL N) (N + 273) I A J) (N + o) k = xI (cst N (rst (mmL N) (miL N) (hL N) (N + 273) I A J) c00) (N + o) k := fun k => by rw [kI ho]; exact w_I ho k
    have eR : ∀ k, (lkp rC o k).isSome = true → xR (rst (mmL N) (miL N) (hL N) (N + 273) I A J) (N + o) k = xR (cst N (rst (mmL N) (miL N) (hL N) (N + 273) I A J) c00) (N + o) k := fun k hk => by
      rw [kR ho]
      refine (w_R ho k).trans ?_
      obtain ⟨v, hv⟩ := Option.isSome_iff_exists.mp hk
      show _ = some (N + (lkp rC o k).getD 0)
      rw [hv]; rfl
    obtain ⟨t1, t2⟩ := t
    match t1, h1, h2 with
    | 0, h1, h2 =>
      intro r hr k hk
      have hci : t2 < 12 := of_decide_eq_true h2
      have h16 := xcl_le t2 hci
      rw [hr] at h16
      have h3 := List.all_eq_true.mp h1 k (List.mem_range.mpr (by have : r.2.2 ≤ 16 := h16; omega))
      rw [hr] at h3
      simp only [decide_eq_false (show ¬ r.2.2 ≤ k by omega), Bool.or_false] at h3
      show xval (xty t2 k) _ _ _ = xval (xty t2 k) _ _ _
      generalize xty t2 k = f at h3 ⊢
      cases f <;> first | (show Value.int _ = Value.int _; rw [eI k]) | (show Value.long _ = Value.long _; rfl) | (show va_rf _ = va_rf _; rw [eR k h3])
    | 1, _, _ => exact fun j => by rw [kA ho]; exact w_A ho j
    | 2, _, _ => exact fun j => by rw [kA ho]; exact w_A ho j
    | 3, h1, _ =>
      intro j hj
      have h3 := (Bool.and_eq_true_iff.mp h1).2
      have h4 := List.all_eq_true.mp h3 j (List.mem_range.mpr hj)
      rw [kP ho]
      refine (w_P j).trans ?_
      obtain ⟨v, hv⟩ := Option.isSome_iff_exists.mp h4
      show _ = some (N + (lkp pC o j).getD 0)
      rw [hv]; rfl
    | n + 4, _, _ => exact fun j => rfl
  · have e : ∀ {α : Type} (x y : α), (if N ≤ N + o ∧ N + o < N + 273 then x else y) = y := fun x y => if_neg (by omega)
    have e1 : ∀ k, xI (cst N (rst (mmL N) (miL N) (hL N) (N + 273) I A J) c00) (N + o) k = xI (rst (mmL N) (miL N) (hL N) (N + 273) I A J) (N + o) k := fun k => e _ _
    have e2 : ∀ k, xR (cst N (rst (mmL N) (miL N) (hL N) (N + 273) I A J) c00) (N + o) k = xR (rst (mmL N) (miL N) (hL N) (N + 273) I A J) (N + o) k := fun k => e _ _
    have e3 : ∀ k, xA (cst N (rst (mmL N) (miL N) (hL N) (N + 273) I A J) c00) (N + o) k = xA (rst (mmL N) (miL N) (hL N) (N + 273) I A J) (N + o) k := fun k => e _ _
    have e4 : ∀ k, xP (cst N (rst (mmL N) (miL N) (hL N) (N + 273) I A J) c00) (N + o) k = xP (rst (mmL N) (miL N) (hL N) (N + 273) I A J) (N + o) k := fun k => e _ _
    obtain ⟨t1, t2⟩ := t
    match t1 with
    | 0 =>
      intro r hr k hk
      show xval (xty t2 k) _ _ _ = xval (xty t2 k) _ _ _
      generalize xty t2 k = f
      cases f <;> first | (show Value.int _ = Value.int _; rw [e1 k]) | (show Value.long _ = Value.long _; rfl) | (show va_rf _ = va_rf _; rw [e2 k])
    | 1 => exact fun j => (e3 j).symm
    | 2 => exact fun j => (e3 j).symm
    | 3 => exact fun j _ => (e4 j).symm
    | n + 4 => exact fun j => rfl
theorem ly0_1 : ∀ e ∈ lyL, (lkp rC e.1 e.2.1).getD 0 = e.2.2 := by decide +kernel
theorem ly0_2 : ∀ t, t < 273 → ct t = some (0, 7) → (lkp rC t 0).getD 0 = t + 1 ∧ (lkp rC t 1).getD 0 = t + 2 := by decide +kernel
theorem ly0_3 : ∀ i, i < 16 → (lkp pC 7 i).getD 0 = 12 + 6 * i ∧ (lkp pC 8 i).getD 0 = 15 + 6 * i ∧ (lkp pC 113 i).getD 0 = 118 + 6 * i ∧ (lkp pC 114 i).getD 0 = 121 + 6 * i := by decide +kernel
theorem ly0_4 : ((lkp rC 0 2).getD 0 = 2 ∧ (lkp rC 0 3).getD 0 = 108) ∧ ((lkp rC 0 4).getD 0 = 214 ∧ (lkp rC 0 5).getD 0 = 217) ∧ ((lkp rC 263 1).getD 0 = 266 ∧ (lkp rC 263 2).getD 0 = 269) := by decide +kernel
theorem ly0 : LY c00 := ⟨ly0_1, fun t ht => ly0_2 t (ct_lt ht) ht, ly0_3, Or.inl ly0_4.1, Or.inl ly0_4.2.1, Or.inl ly0_4.2.2⟩
theorem i0_all : (lkp iC 2 7).getD 0 = 0 ∧ (lkp iC 2 8).getD 0 = 0 ∧ (lkp iC 2 9).getD 0 = 0 ∧ (lkp iC 214 2).getD 0 = 0 ∧ (lkp iC 232 4).getD 0 = 0 ∧ (lkp iC 232 3).getD 0 = 0 ∧ (lkp iC 232 2).getD 0 = 0 ∧ (lkp iC 234 4).getD 0 = 0 ∧ (lkp iC 0 1).getD 0 = 0 ∧ (lkp iC 226 3).getD 0 = 0 ∧ (lkp iC 226 4).getD 0 = -1 := by decide +kernel
theorem crep0 : CRep c00 g00 := by
  obtain ⟨z1, z2, z3, z4, z5, z6, z7, z8, z9, z10, z11⟩ := i0_all
  have hI : ∀ q k, cI c00 q k = i32 ((lkp iC q k).getD 0) := fun _ _ => rfl
  have e2 : cR c00 0 2 = 2 := ly0_4.1.1
  have e4 : cR c00 0 4 = 214 := ly0_4.2.1.1
  refine ⟨ly0, ?_, ?_, ⟨?_, ?_, ⟨[], seg_nil _ _, trivial⟩, ?_, fun x hx => (by cases hx)⟩, ⟨?_, fun i r hr => ?_⟩, ⟨?_, fun k hk => absurd hk (Nat.not_lt_zero k)⟩, ?_, ?_⟩
  · rw [e2]
    refine ⟨?_, ?_, ?_, fun k hk => absurd hk (Nat.not_lt_zero k), fun k hk => absurd hk (Nat.not_lt_zero k), fun k hk => absurd hk (Nat.not_lt_zero k)⟩
    · rw [hI, z1]; rfl
    · rw [hI, z2]; rfl
    · rw [hI, z3]; rfl
  · rw [e4]
    exact isT_nil ly0 (by decide) (by decide) (by decide) (by decide) (by rw [hI, z4])
  · rw [hI, z5]; rfl
  · rw [hI, z6]; rfl
  · rw [hI, z7]; rfl
  · rw [hI, z8]; rfl
  · cases hr
  · rw [hI, z9]; rfl
  · rw [hI, z10]; rfl
  · rw [hI, z11]; rfl
theorem gwf0 : gwf g00 := gTx_wf bk0_wf
end BOTH

/-! THE OPERATIONS in the law's form: one world, both calls, one answer (written by gen3.py) -/
def wld (N : Nat) (h0 : xH) (c : CS) (I : Nat → Int32) (A : Nat → Nat → Int32) (J : Nat → Int64) : xH := cst N (rst (mmL N) (miL N) h0 (N + 273) I A J) c
def MHL (N : Nat) (h0 : xH) : Prop := MH (tyL N) (N + 273) (mmL N) (miL N) h0
theorem cst_rst {mm mi : Nat → Nat} {h : xH} {N M : Nat} {c : CS} {I : Nat → Int32} {A : Nat → Nat → Int32} {J : Nat → Int64} (hM : N + 273 ≤ M) (hm : ∀ q, 0 < ml (mi q) → mm (mi q) = q → N + 273 ≤ q) : cst N (rst mm mi h M I A J) c = rst mm mi (cst N h c) M I A J := by
  unfold cst rst
  refine Prod.ext ?_ (Prod.ext rfl (Prod.ext ?_ (Prod.ext rfl rfl)))
  · funext q k
    show (if N ≤ q ∧ q < N + 273 then c.1 (q - N) k else if q = M then I k else h.1 q k) = if q = M then I k else if N ≤ q ∧ q < N + 273 then c.1 (q - N) k else h.1 q k
    by_cases h1 : N ≤ q ∧ q < N + 273
    · have h2 : ¬ q = M := by omega
      simp only [h1, h2, and_self, if_true, if_false]
    · simp only [h1, if_false]
  · funext q k
    show (if N ≤ q ∧ q < N + 273 then c.2.2.1 (q - N) k else if 0 < ml (mi q) ∧ mm (mi q) = q then A (mi q) k else h.2.2.1 q k) = if 0 < ml (mi q) ∧ mm (mi q) = q then A (mi q) k else if N ≤ q ∧ q < N + 273 then c.2.2.1 (q - N) k else h.2.2.1 q k
    by_cases h1 : N ≤ q ∧ q < N + 273
    · have h2 : ¬ (0 < ml (mi q) ∧ mm (mi q) = q) := fun z => by have := hm q z.1 z.2; omega
      rw [if_pos h1, if_neg h2, if_pos h1]
    · rw [if_neg h1, if_neg h1]
theorem mmL_ge {N q : Nat} (_ : 0 < ml (miL N q)) (h : mmL N (miL N q) = q) : N + 273 ≤ q := by unfold mmL at h; omega
theorem wld_r {N : Nat} {h0 : xH} {c : CS} {I : Nat → Int32} {A : Nat → Nat → Int32} {J : Nat → Int64} : wld N h0 c I A J = rst (mmL N) (miL N) (cst N h0 c) (N + 273) I A J := cst_rst (Nat.le_refl _) (fun _ h1 h2 => mmL_ge h1 h2)
theorem cst_inj {N : Nat} {h h' : xH} {c c' : CS} (e : cst N h c = cst N h c') : cst N h' c = cst N h' c' := by
  have e1 : ∀ q k, N ≤ q ∧ q < N + 273 → c.1 (q - N) k = c'.1 (q - N) k := fun q k hq => by
    have := congrFun (congrFun (congrArg (fun x : xH => x.1) e) q) k
    simp only [cst, hq, and_self, if_true] at this
    exact this
  have e2 : ∀ q k, N ≤ q ∧ q < N + 273 → c.2.1 (q - N) k = c'.2.1 (q - N) k := fun q k hq => by
    have := congrFun (congrFun (congrArg (fun x : xH => x.2.1) e) q) k
    simp only [cst, hq, and_self, if_true, Option.some.injEq] at this
    omega
  have e3 : ∀ q k, N ≤ q ∧ q < N + 273 → c.2.2.1 (q - N) k = c'.2.2.1 (q - N) k := fun q k hq => by
    have := congrFun (congrFun (congrArg (fun x : xH => x.2.2.1) e) q) k
    simp only [cst, hq, and_self, if_true] at this
    exact this
  have e4 : ∀ q k, N ≤ q ∧ q < N + 273 → c.2.2.2 (q - N) k = c'.2.2.2 (q - N) k := fun q k hq => by
    have := congrFun (congrFun (congrArg (fun x : xH => x.2.2.2.1) e) q) k
    simp only [cst, hq, and_self, if_true, Option.some.injEq] at this
    omega
  unfold cst
  refine Prod.ext ?_ (Prod.ext ?_ (Prod.ext ?_ (Prod.ext ?_ rfl)))
  · funext q k
    show (if _ then _ else _) = if _ then _ else _
    by_cases hq : N ≤ q ∧ q < N + 273
    · rw [if_pos hq, if_pos hq, e1 q k hq]
    · rw [if_neg hq, if_neg hq]
  · funext q k
    show (if _ then _ else _) = if _ then _ else _
    by_cases hq : N ≤ q ∧ q < N + 273
    · rw [if_pos hq, if_pos hq, e2 q k hq]
    · rw [if_neg hq, if_neg hq]
  · funext q k
    show (if _ then _ else _) = if _ then _ else _
    by_cases hq : N ≤ q ∧ q < N + 273
    · rw [if_pos hq, if_pos hq, e3 q k hq]
    · rw [if_neg hq, if_neg hq]
  · funext q k
    show (if _ then _ else _) = if _ then _ else _
    by_cases hq : N ≤ q ∧ q < N + 273
    · rw [if_pos hq, if_pos hq, e4 q k hq]
    · rw [if_neg hq, if_neg hq]
theorem mks_ml : ∀ k ∈ mks, 1 ≤ ml k := by decide
theorem MH_L {N : Nat} : MHL N (hL N) := MH_of (fun _ _ _ => rfl) hL_r
theorem MH_Lc {N : Nat} {h0 : xH} (hH : MHL N h0) (c : CS) : MHL N (cst N h0 c) := MH_of (fun _ _ _ => rfl) (fun k hk => by
  obtain ⟨h1, -, -⟩ := mks_ok k hk
  have hp : 0 < ml k := by
    have := mks_ml k hk
    omega
  rw [← (hH.2 k hp).1]
  show (if N ≤ N + 273 ∧ N + 273 < N + 273 then _ else _) = _
  rw [if_neg (by omega)]
  rfl)
theorem wld_J {N : Nat} {h0 : xH} {c : CS} {I : Nat → Int32} {A : Nat → Nat → Int32} {J : Nat → Int64} (v : Int64) : xsJ (wld N h0 c I A J) (N + 301) 0 v = wld N (xsJ h0 (N + 301) 0 v) c I A J := by
  unfold wld cst rst xsJ
  refine Prod.ext rfl (Prod.ext rfl (Prod.ext rfl (Prod.ext rfl ?_)))
  funext q k
  show xup (fun q k => if q = N + 273 then J k else h0.2.2.2.2 q k) (N + 301) 0 v q k = if q = N + 273 then J k else xup h0.2.2.2.2 (N + 301) 0 v q k
  unfold xup
  by_cases h1 : q = N + 273
  · have h2 : ¬ (q = N + 301 ∧ k = 0) := by omega
    simp only [h1, h2, if_true, if_false]
    rw [if_neg (by omega)]
  · simp only [h1, if_false]
theorem MHL.J {N : Nat} {h0 : xH} (h : MHL N h0) (v : Int64) : MHL N (xsJ h0 (N + 301) 0 v) := h
def LO (N : Nat) (X Y : xH → Option (Int32 × xH)) : Prop := ∀ (h0 : xH), MHL N h0 → ∀ (c : CS) (I : Nat → Int32) (A : Nat → Nat → Int32) (J : Nat → Int64) (g : Sg), gwf g → CRep c g → RRep I A g → ∃ (v : Int32) (c' : CS) (I' : Nat → Int32) (A' : Nat → Nat → Int32) (J' : Nat → Int64) (g' : Sg), gwf g' ∧ CRep c' g' ∧ RRep I' A' g' ∧ I' 2 = i32 0 ∧ X (wld N h0 c I A J) = some (v, wld N h0 c' I A J) ∧ Y (wld N h0 c' I A J) = some (v, wld N h0 c' I' A' J')
def LOp (N : Nat) (X : xH → Option Int32) (Y : xH → Option (Int32 × xH)) : Prop := ∀ (h0 : xH), MHL N h0 → ∀ (c : CS) (I : Nat → Int32) (A : Nat → Nat → Int32) (J : Nat → Int64) (g : Sg), gwf g → CRep c g → RRep I A g → ∃ (v : Int32) (I' : Nat → Int32) (A' : Nat → Nat → Int32), RRep I' A' g ∧ I' 2 = i32 0 ∧ X (wld N h0 c I A J) = some v ∧ Y (wld N h0 c I A J) = some (v, wld N h0 c I' A' J)
theorem LO.of {N : Nat} {X Y : xH → Option (Int32 × xH)} (hop : ∀ {c : CS} {I : Nat → Int32} {A : Nat → Nat → Int32} {J : Nat → Int64} {g : Sg} {hA hB : xH}, gwf g → CRep c g → RRep I A g → MH (tyL N) (N + 273) (mmL N) (miL N) hB → ∃ g' J', gwf g' ∧ OP N hA (mmL N) (miL N) hB (N + 273) J' g' (X (cst N hA c)) (Y (rst (mmL N) (miL N) hB (N + 273) I A J))) : LO N X Y := by
  intro h0 hH c I A J g hg hc hr
  obtain ⟨g1, J1, _, v1, c1, I1, A1, x1, -, y1, -⟩ := hop (J := J) (hA := rst (mmL N) (miL N) h0 (N + 273) I A J) (hB := h0) hg hc hr hH
  obtain ⟨g2, J2, w2, v2, c2, I2, A2, x2, r2, y2, s2, t2⟩ := hop (J := J) (hA := rst (mmL N) (miL N) h0 (N + 273) I A J) (hB := cst N h0 c1) hg hc hr (MH_Lc hH c1)
  have e2 : cst N h0 c1 = cst N h0 c2 := cst_inj (congrArg Prod.snd (Option.some.inj (x1.symm.trans x2)))
  rw [e2] at y2
  refine ⟨v2, c2, I2, A2, J2, g2, w2, r2, s2, t2, x2, ?_⟩
  rw [wld_r, wld_r]
  exact y2
theorem LOp.of {N : Nat} {X : xH → Option Int32} {Y : xH → Option (Int32 × xH)} (hop : ∀ {c : CS} {I : Nat → Int32} {A : Nat → Nat → Int32} {J : Nat → Int64} {g : Sg} {hA hB : xH}, gwf g → CRep c g → RRep I A g → MH (tyL N) (N + 273) (mmL N) (miL N) hB → OPp (mmL N) (miL N) hB (N + 273) J g (X (cst N hA c)) (Y (rst (mmL N) (miL N) hB (N + 273) I A J))) : LOp N X Y := by
  intro h0 hH c I A J g hg hc hr
  obtain ⟨v, I1, A1, x1, y1, r1, t1⟩ := hop (J := J) (hA := rst (mmL N) (miL N) h0 (N + 273) I A J) (hB := cst N h0 c) hg hc hr (MH_Lc hH c)
  refine ⟨v, I1, A1, r1, t1, x1, ?_⟩
  rw [wld_r, wld_r]
  exact y1
theorem i32_of (x : Int32) : ∃ z : Int, x = i32 z ∧ -2147483648 ≤ z ∧ z < 2147483648 := by
  refine ⟨x.toInt, (Int32.ofInt_toInt x).symm, ?_, ?_⟩
  · have := Int32.le_toInt x; omega
  · have := Int32.toInt_lt x; omega
theorem lo_fits {N : Nat} (x1 x2 : Int32) : LO N (fun h => jf_X11_fits (tyL N) h (N + 0) x1 x2) (fun h => jf_X12_fits (tyL N) h (N + 273) x1 x2) := by
  obtain ⟨z1, rfl, a1, b1⟩ := i32_of x1
  obtain ⟨z2, rfl, a2, b2⟩ := i32_of x2
  exact LO.of (fun hg hc hr H => ⟨_, _, hg, op_fits CH_L H hg hc hr a1 b1 a2 b2⟩)
theorem lo_above {N : Nat} (x1 : Int32) : LO N (fun h => jf_X11_above (tyL N) h (N + 0) x1) (fun h => jf_X12_above (tyL N) h (N + 273) x1) := by
  obtain ⟨z1, rfl, a1, b1⟩ := i32_of x1
  exact LO.of (fun hg hc hr H => ⟨_, _, hg, op_above CH_L H hg hc hr a1 b1⟩)
theorem lo_shadowed {N : Nat} : LO N (fun h => jf_X11_shadowed (tyL N) h (N + 0) ) (fun h => jf_X12_shadowed (tyL N) h (N + 273) ) := by
  exact LO.of (fun hg hc hr H => ⟨_, _, hg, op_shadowed CH_L H hg hc hr ⟩)
theorem lo_tops {N : Nat} : LO N (fun h => jf_X11_tops (tyL N) h (N + 0) ) (fun h => jf_X12_tops (tyL N) h (N + 273) ) := by
  exact LO.of (fun hg hc hr H => ⟨_, _, hg, op_tops CH_L H hg hc hr ⟩)
theorem lo_beside {N : Nat} (x1 x2 x3 : Int32) : LO N (fun h => jf_X11_beside (tyL N) h (N + 0) x1 x2 x3) (fun h => jf_X12_beside (tyL N) h (N + 273) x1 x2 x3) := by
  obtain ⟨z1, rfl, a1, b1⟩ := i32_of x1
  obtain ⟨z2, rfl, a2, b2⟩ := i32_of x2
  obtain ⟨z3, rfl, a3, b3⟩ := i32_of x3
  exact LO.of (fun hg hc hr H => ⟨_, _, hg, op_beside CH_L H hg hc hr a1 b1 a2 b2 a3 b3⟩)
theorem lo_overlaps {N : Nat} (x1 x2 : Int32) : LO N (fun h => jf_X11_overlaps (tyL N) h (N + 0) x1 x2) (fun h => jf_X12_overlaps (tyL N) h (N + 273) x1 x2) := by
  obtain ⟨z1, rfl, a1, b1⟩ := i32_of x1
  obtain ⟨z2, rfl, a2, b2⟩ := i32_of x2
  exact LO.of (fun hg hc hr H => ⟨_, _, hg, op_overlaps CH_L H hg hc hr a1 b1 a2 b2⟩)
theorem lo_critical {N : Nat} (x1 x2 x3 x4 : Int32) : LO N (fun h => jf_X11_critical (tyL N) h (N + 0) x1 x2 x3 x4) (fun h => jf_X12_critical (tyL N) h (N + 273) x1 x2 x3 x4) := by
  obtain ⟨z1, rfl, a1, b1⟩ := i32_of x1
  obtain ⟨z2, rfl, a2, b2⟩ := i32_of x2
  obtain ⟨z3, rfl, a3, b3⟩ := i32_of x3
  obtain ⟨z4, rfl, a4, b4⟩ := i32_of x4
  exact LO.of (fun hg hc hr H => ⟨_, _, hg, op_critical CH_L H hg hc hr a1 b1 a2 b2 a3 b3 a4 b4⟩)
theorem lo_meeting {N : Nat} (x1 x2 : Int32) : LO N (fun h => jf_X11_meeting (tyL N) h (N + 0) x1 x2) (fun h => jf_X12_meeting (tyL N) h (N + 273) x1 x2) := by
  obtain ⟨z1, rfl, a1, b1⟩ := i32_of x1
  obtain ⟨z2, rfl, a2, b2⟩ := i32_of x2
  exact LO.of (fun hg hc hr H => ⟨_, _, hg, op_meeting CH_L H hg hc hr a1 b1 a2 b2⟩)
theorem lo_criticals {N : Nat} : LO N (fun h => jf_X11_criticals (tyL N) h (N + 0) ) (fun h => jf_X12_criticals (tyL N) h (N + 273) ) := by
  exact LO.of (fun hg hc hr H => ⟨_, _, hg, op_criticals CH_L H hg hc hr ⟩)
theorem lo_specific {N : Nat} (x1 : Int32) : LO N (fun h => jf_X11_specific (tyL N) h (N + 0) x1) (fun h => jf_X12_specific (tyL N) h (N + 273) x1) := by
  obtain ⟨z1, rfl, a1, b1⟩ := i32_of x1
  exact LO.of (fun hg hc hr H => ⟨_, _, hg, op_specific CH_L H hg hc hr a1 b1⟩)
theorem lo_filled {N : Nat} (x1 x2 x3 : Int32) : LO N (fun h => jf_X11_filled (tyL N) h (N + 0) x1 x2 x3) (fun h => jf_X12_filled (tyL N) h (N + 273) x1 x2 x3) := by
  obtain ⟨z1, rfl, a1, b1⟩ := i32_of x1
  obtain ⟨z2, rfl, a2, b2⟩ := i32_of x2
  obtain ⟨z3, rfl, a3, b3⟩ := i32_of x3
  exact LO.of (fun hg hc hr H => ⟨_, _, hg, op_filled CH_L H hg hc hr a1 b1 a2 b2 a3 b3⟩)
theorem lo_found {N : Nat} (x1 x2 : Int32) : LO N (fun h => jf_X11_found (tyL N) h (N + 0) x1 x2) (fun h => jf_X12_found (tyL N) h (N + 273) x1 x2) := by
  obtain ⟨z1, rfl, a1, b1⟩ := i32_of x1
  obtain ⟨z2, rfl, a2, b2⟩ := i32_of x2
  exact LO.of (fun hg hc hr H => ⟨_, _, hg, op_found CH_L H hg hc hr a1 b1 a2 b2⟩)
theorem lo_finding {N : Nat} (x1 x2 : Int32) : LO N (fun h => jf_X11_finding (tyL N) h (N + 0) x1 x2) (fun h => jf_X12_finding (tyL N) h (N + 273) x1 x2) := by
  obtain ⟨z1, rfl, a1, b1⟩ := i32_of x1
  obtain ⟨z2, rfl, a2, b2⟩ := i32_of x2
  exact LO.of (fun hg hc hr H => ⟨_, _, hg, op_finding CH_L H hg hc hr a1 b1 a2 b2⟩)
theorem lo_tried {N : Nat} (x1 x2 x3 : Int32) : LO N (fun h => jf_X11_tried (tyL N) h (N + 0) x1 x2 x3) (fun h => jf_X12_tried (tyL N) h (N + 273) x1 x2 x3) := by
  obtain ⟨z1, rfl, a1, b1⟩ := i32_of x1
  obtain ⟨z2, rfl, a2, b2⟩ := i32_of x2
  obtain ⟨z3, rfl, a3, b3⟩ := i32_of x3
  exact LO.of (fun hg hc hr H => ⟨_, _, hg, op_tried CH_L H hg hc hr a1 b1 a2 b2 a3 b3⟩)
theorem lo_joined {N : Nat} (x1 x2 x3 : Int32) : LO N (fun h => jf_X11_joined (tyL N) h (N + 0) x1 x2 x3) (fun h => jf_X12_joined (tyL N) h (N + 273) x1 x2 x3) := by
  obtain ⟨z1, rfl, a1, b1⟩ := i32_of x1
  obtain ⟨z2, rfl, a2, b2⟩ := i32_of x2
  obtain ⟨z3, rfl, a3, b3⟩ := i32_of x3
  exact LO.of (fun hg hc hr H => ⟨_, _, hg, op_joined CH_L H hg hc hr a1 b1 a2 b2 a3 b3⟩)
theorem lo_steps {N : Nat} (x1 : Int32) : LO N (fun h => jf_X11_steps (tyL N) h (N + 0) x1) (fun h => jf_X12_steps (tyL N) h (N + 273) x1) := by
  obtain ⟨z1, rfl, a1, b1⟩ := i32_of x1
  exact LO.of (fun hg hc hr H => ⟨_, _, hg, op_steps CH_L H hg hc hr a1 b1⟩)
theorem lo_normal {N : Nat} (x1 : Int32) : LO N (fun h => jf_X11_normal (tyL N) h (N + 0) x1) (fun h => jf_X12_normal (tyL N) h (N + 273) x1) := by
  obtain ⟨z1, rfl, a1, b1⟩ := i32_of x1
  exact LO.of (fun hg hc hr H => ⟨_, _, hg, op_normal CH_L H hg hc hr a1 b1⟩)
theorem lo_asked {N : Nat} (x1 : Int32) : LOp N (fun h => jf_X11_asked (tyL N) h (N + 0) x1) (fun h => jf_X12_asked (tyL N) h (N + 273) x1) := by
  obtain ⟨z1, rfl, a1, b1⟩ := i32_of x1
  exact LOp.of (fun hg hc hr H => op_asked CH_L H hg hc hr a1 b1)
theorem lo_fault {N : Nat} (x1 : Int32) : LOp N (fun h => jf_X11_fault (tyL N) h (N + 0) x1) (fun h => jf_X12_fault (tyL N) h (N + 273) x1) := by
  obtain ⟨z1, rfl, a1, b1⟩ := i32_of x1
  exact LOp.of (fun hg hc hr H => op_fault CH_L hc hr a1 b1)
theorem lo_code {N : Nat} (x1 x2 x3 : Int32) : LOp N (fun h => jf_X11_code (tyL N) h (N + 0) x1 x2 x3) (fun h => jf_X12_code (tyL N) h (N + 273) x1 x2 x3) := by
  obtain ⟨z1, rfl, a1, b1⟩ := i32_of x1
  obtain ⟨z2, rfl, a2, b2⟩ := i32_of x2
  obtain ⟨z3, rfl, a3, b3⟩ := i32_of x3
  exact LOp.of (fun hg hc hr H => op_code CH_L H hg hc hr a1 b1 a2 b2 a3 b3)
theorem lo_skip {N : Nat} (x1 x2 : Int32) : LOp N (fun h => jf_X11_skip (tyL N) h (N + 0) x1 x2) (fun h => jf_X12_skip (tyL N) h (N + 273) x1 x2) := by
  obtain ⟨z1, rfl, a1, b1⟩ := i32_of x1
  obtain ⟨z2, rfl, a2, b2⟩ := i32_of x2
  exact LOp.of (fun hg hc hr H => op_skip CH_L H hg hc hr a1 b1 a2 b2)
theorem lo_shared {N : Nat} (x1 x2 : Int32) : LOp N (fun h => jf_X11_shared (tyL N) h (N + 0) x1 x2) (fun h => jf_X12_shared (tyL N) h (N + 273) x1 x2) := by
  obtain ⟨z1, rfl, a1, b1⟩ := i32_of x1
  obtain ⟨z2, rfl, a2, b2⟩ := i32_of x2
  exact LOp.of (fun hg hc hr H => op_shared CH_L H hg hc hr a1 b1 a2 b2)
theorem lo_named {N : Nat} (x1 x2 : Int32) : LOp N (fun h => jf_X11_named (tyL N) h (N + 0) x1 x2) (fun h => jf_X12_named (tyL N) h (N + 273) x1 x2) := by
  obtain ⟨z1, rfl, a1, b1⟩ := i32_of x1
  exact LOp.of (fun hg hc hr H => op_named CH_L H hg hc hr a1 b1 x2)
theorem lo_depth {N : Nat} (x1 : Int32) : LOp N (fun h => jf_X11_depth (tyL N) h (N + 0) x1) (fun h => jf_X12_depth (tyL N) h (N + 273) x1) := by
  obtain ⟨z1, rfl, a1, b1⟩ := i32_of x1
  exact LOp.of (fun hg hc hr H => op_depth CH_L H hg hc hr a1 b1)
theorem lo_order {N : Nat} (x1 : Int32) : LOp N (fun h => jf_X11_order (tyL N) h (N + 0) x1) (fun h => jf_X12_order (tyL N) h (N + 273) x1) := by
  obtain ⟨z1, rfl, a1, b1⟩ := i32_of x1
  exact LOp.of (fun hg hc hr H => op_order CH_L H hg hc hr a1 b1)
theorem lo_width {N : Nat} (x1 : Int32) : LOp N (fun h => jf_X11_width (tyL N) h (N + 0) x1) (fun h => jf_X12_width (tyL N) h (N + 273) x1) := by
  obtain ⟨z1, rfl, a1, b1⟩ := i32_of x1
  exact LOp.of (fun hg hc hr H => op_width CH_L H hg hc hr a1 b1)
theorem lo_apart {N : Nat} (x1 : Int32) : LOp N (fun h => jf_X11_apart (tyL N) h (N + 0) x1) (fun h => jf_X12_apart (tyL N) h (N + 273) x1) := by
  obtain ⟨z1, rfl, a1, b1⟩ := i32_of x1
  exact LOp.of (fun hg hc hr H => op_apart CH_L H hg hc hr a1 b1)
theorem lo_branch {N : Nat} (x1 x2 : Int32) : LOp N (fun h => jf_X11_branch (tyL N) h (N + 0) x1 x2) (fun h => jf_X12_branch (tyL N) h (N + 273) x1 x2) := by
  obtain ⟨z1, rfl, a1, b1⟩ := i32_of x1
  obtain ⟨z2, rfl, a2, b2⟩ := i32_of x2
  exact LOp.of (fun hg hc hr H => op_branch CH_L H hg hc hr a1 b1 a2 b2)
theorem lo_count {N : Nat} (x1 : Int32) : LOp N (fun h => jf_X11_count (tyL N) h (N + 0) x1) (fun h => jf_X12_count (tyL N) h (N + 273) x1) := by
  obtain ⟨z1, rfl, a1, b1⟩ := i32_of x1
  exact LOp.of (fun hg hc hr H => op_count CH_L H hg hc hr a1 b1)
theorem lo_back {N : Nat} : LO N (fun h => jf_X11_back (tyL N) h (N + 0) ) (fun h => jf_X12_back (tyL N) h (N + 273) ) := by
  refine LO.of (fun hg hc hr H => ?_)
  obtain ⟨g1, w1, o1⟩ := op_back CH_L hg hc hr
  exact ⟨g1, _, w1, o1⟩
theorem lo_undo {N : Nat} : LO N (fun h => jf_X11_undo (tyL N) h (N + 0) ) (fun h => jf_X12_undo (tyL N) h (N + 273) ) := by
  refine LO.of (fun hg hc hr H => ?_)
  obtain ⟨g1, w1, o1⟩ := op_undo CH_L H hg hc hr 
  exact ⟨g1, _, w1, o1⟩
theorem lo_take {N : Nat} (x1 : Int32) : LO N (fun h => jf_X11_take (tyL N) h (N + 0) x1) (fun h => jf_X12_take (tyL N) h (N + 273) x1) := by
  obtain ⟨z1, rfl, a1, b1⟩ := i32_of x1
  refine LO.of (fun hg hc hr H => ?_)
  obtain ⟨g1, w1, o1⟩ := op_take CH_L H hg hc hr a1 b1
  exact ⟨g1, _, w1, o1⟩
theorem lo_put {N : Nat} (x1 : Int32) : LO N (fun h => jf_X11_put (tyL N) h (N + 0) x1) (fun h => jf_X12_put (tyL N) h (N + 273) x1) := by
  obtain ⟨z1, rfl, a1, b1⟩ := i32_of x1
  refine LO.of (fun hg hc hr H => ?_)
  obtain ⟨g1, w1, o1⟩ := op_put CH_L H hg hc hr a1 b1
  exact ⟨g1, _, w1, o1⟩
theorem lo_feed {N : Nat} (x1 x2 x3 x4 x5 : Int32) : LO N (fun h => jf_X11_feed (tyL N) h (N + 0) x1 x2 x3 x4 x5) (fun h => jf_X12_feed (tyL N) h (N + 273) x1 x2 x3 x4 x5) := by
  refine LO.of (fun hg hc hr H => ?_)
  obtain ⟨g1, w1, o1⟩ := op_feed CH_L H hg hc hr x1 x2 x3 x4 x5
  exact ⟨g1, _, w1, o1⟩
theorem lo_query {N : Nat} (x1 : Int32) : LO N (fun h => jf_X11_query (tyL N) h (N + 0) x1) (fun h => jf_X12_query (tyL N) h (N + 273) x1) := by
  obtain ⟨z1, rfl, a1, b1⟩ := i32_of x1
  refine LO.of (fun hg hc hr H => ?_)
  obtain ⟨g1, w1, o1⟩ := op_query CH_L H hg hc hr a1 b1
  exact ⟨g1, _, w1, o1⟩
theorem lo_text {N : Nat} (x1 : Int32) : LO N (fun h => jf_X11_text (tyL N) h (N + 0) x1) (fun h => jf_X12_text (tyL N) h (N + 273) x1) := by
  obtain ⟨z1, rfl, a1, b1⟩ := i32_of x1
  refine LO.of (fun hg hc hr H => ?_)
  obtain ⟨g1, w1, o1⟩ := op_text CH_L H hg hc hr a1 b1
  exact ⟨g1, _, w1, o1⟩
theorem lo_keep {N : Nat} : LO N (fun h => jf_X11_keep (tyL N) h (N + 0) ) (fun h => jf_X12_keep (tyL N) h (N + 273) ) := by
  refine LO.of (fun hg hc hr H => ?_)
  obtain ⟨w1, o1⟩ := op_keep CH_L hg hc hr
  exact ⟨_, _, w1, o1⟩
theorem lo_draw {N : Nat} (x1 : Int32) : LO N (fun h => jf_X11_draw (tyL N) h (N + 0) x1) (fun h => jf_X12_draw (tyL N) h (N + 273) x1) := by
  obtain ⟨z1, rfl, a1, b1⟩ := i32_of x1
  refine LO.of (fun hg hc hr H => ?_)
  obtain ⟨g1, J1, w1, o1⟩ := op_draw CH_L H hg hc hr a1 b1
  exact ⟨g1, J1, w1, o1⟩
theorem lo_chance {N : Nat} (x1 x2 : Int32) : LO N (fun h => jf_X11_chance (tyL N) h (N + 0) x1 x2) (fun h => jf_X12_chance (tyL N) h (N + 273) x1 x2) := by
  obtain ⟨z1, rfl, a1, b1⟩ := i32_of x1
  obtain ⟨z2, rfl, a2, b2⟩ := i32_of x2
  refine LO.of (fun hg hc hr H => ?_)
  obtain ⟨J1, o1⟩ := op_chance CH_L H hg hc hr a1 b1 a2 b2
  exact ⟨_, J1, hg, o1⟩

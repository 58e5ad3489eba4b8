/-! RULE, in both -/
section OPRULE
variable {ty : xTy} {N M : Nat} {hA hB h0 : xH} {mm mi : Nat → Nat} {c : CS} {I I' : Nat → Int32} {A A' : Nat → Nat → Int32} {J : Nat → Int64} {g : Sg} {b : Bk}
theorem op_rule (C : CH ty N) (H : MH ty M mm mi hB) (hg : gwf g) (hc : CRep c g) (hr : RRep I A g) {r w : Int} (b1 : -2147483648 ≤ r) (b2 : r < 2147483648) (f1 : -2147483648 ≤ w) (f2 : w < 2147483648) :
    ∃ (k : Int) (v v' : Int32) (I' : Nat → Int32), jf_X11_rule ty (cst N hA c) (N + 0) (i32 r) (i32 w) = some (i32 k, v) ∧ jf_X12_rule ty (rst mm mi hB M I A J) M (i32 r) (i32 w) = some (v', rst mm mi hB M I' A J) ∧ RRep I' A g ∧ I' 2 = i32 k ∧ (k = 0 ∨ k = 1 ∨ k = 2) ∧ (k = 0 → v' = v) := by
  have h16 := hg.1.2.2.1
  have hr2 : RRep (fu I 2 (i32 0)) A g := hr.ks (fun k _ h _ => fu_ne _ _ h) keepA.rf
  have hrk : ∀ x : Int32, RRep (fu (fu I 2 (i32 0)) 2 x) A g := fun x => hr2.ks (fun k _ h _ => fu_ne _ _ h) keepA.rf
  have hgin : gin g < 65536 := by
    have h1 := hg.2.2.1
    have h2 : 2 ^ bnr (gb g) ≤ 2 ^ 16 := Nat.pow_le_pow_right (by omega) h16
    omega
  unfold jf_X11_rule jf_X12_rule
  simp (disch := omega) only [i32_lit, rsI, xbs, bI_eq0, k_book C hc.1, k_hasRule hg.1 hc.1.bk hc.2.1 b1 b2, r_isRule hg.1 hr2.1.2.2.1 b1 b2]
  cases hR : isR (gb g) r with
  | false =>
    simp only [if_true]
    unfold jf_X12_fails
    simp only [i32_lit, rsI, xbs, xb2s]
    exact ⟨1, _, _, _, rfl, rfl, hrk _, fu_same _ _ _, Or.inr (Or.inl rfl), fun e => absurd e (by decide)⟩
  | true =>
  obtain ⟨r, rfl, hrr⟩ := isR_r hR
  obtain ⟨t1, t2, t3, t4⟩ := hc.tm hg hrr
  have lr := (hg.lo hrr).2.1
  have hrow := hr2.1.2.2.2.2.2 r hrr
  have hB2 := hc.1.bk
  have hw : ∀ x : Int, 0 ≤ x → x < 10 → (i32 w = i32 x ↔ w = x) := fun x h1 h2 => by rw [i32_eq (by omega) (by omega) (by omega) (by omega)]
  have hT4 : ∀ d ∈ bT (gb g) r, d < 1000 := fun d hd => by
    have := (hg.1.2.2.2.2 r hrr).1.lt hg.1 d hd
    omega
  simp (disch := omega) only [Bool.true_eq_false, if_false, k_termOf C hc.1 hc.1.bk, k_rightOf C hc.1 hc.1.bk, xbs, kck C t1.1, kck C t2.1, rr_22 H, ga_22 H, rr_24 H, ga_24 H, Int.toNat_natCast, hrow.2.1, hrow.2.2.2.1]
  have fin : ∀ (v : Int32), ∃ (k : Int) (v0 v' : Int32) (I' : Nat → Int32), (some (i32 0, v) : Option (Int32 × Int32)) = some (i32 k, v0) ∧ (some (v, rst mm mi hB M (fu I 2 (i32 0)) A J) : Option (Int32 × xH)) = some (v', rst mm mi hB M I' A J) ∧ RRep I' A g ∧ I' 2 = i32 k ∧ (k = 0 ∨ k = 1 ∨ k = 2) ∧ (k = 0 → v' = v0) := fun v => ⟨0, v, v, _, rfl, rfl, hr2, fu_same _ _ _, Or.inl rfl, fun _ => rfl⟩
  by_cases w0 : w = 0
  · have e := (hw 0 (by omega) (by omega)).mpr w0
    simp (disch := omega) only [eq_true e, if_true, kI, t1.2.2.2.2.2.2.2.1]
    exact fin _
  · have e0 : ¬ i32 w = i32 0 := fun z => w0 ((hw 0 (by omega) (by omega)).mp z)
    simp only [eq_false e0, if_false]
    by_cases w1 : w = 1
    · have e := (hw 1 (by omega) (by omega)).mpr w1
      simp (disch := omega) only [eq_true e, if_true, kI, t2.2.2.2.2.2.2.2.1]
      exact fin _
    · have e1 : ¬ i32 w = i32 1 := fun z => w1 ((hw 1 (by omega) (by omega)).mp z)
      simp only [eq_false e1, if_false]
      by_cases w2 : w = 2
      · have e := (hw 2 (by omega) (by omega)).mpr w2
        simp only [eq_true e, if_true, k_var C t1 hT4, r_vm H hg.1 hr2.1 hrr, xbs]
        exact fin _
      · have e2 : ¬ i32 w = i32 2 := fun z => w2 ((hw 2 (by omega) (by omega)).mp z)
        simp only [eq_false e2, if_false]
        by_cases w3 : w = 3
        · have e := (hw 3 (by omega) (by omega)).mpr w3
          have e9 : xgo ty (cst N hA c) (N + 0) 9 6 = some (N + 232) := k_sub C hc.1 (show (0, 9, 232) ∈ lyL by decide) (by omega) (show ct 232 = some (0, 6) by decide)
          have hbit : (i32 (gin g : Nat) >>> (i32 (r : Nat) &&& i32 31)) &&& i32 1 = bI (inR (gin g) r) := by
            have h9 := i32_bit (n := gin g) (k := r) (by omega) (by omega)
            rw [show (i32 31 : Int32) = 31 from rfl, h9]
            unfold inR
            cases (gin g).testBit r <;> rfl
          have e26 : fu I 2 (i32 0) 26 = i32 (gin g : Nat) := hr2.2.1
          simp only [eq_true e, if_true, e9, xbs, k_isIn hgin hc.2.2.2.1 (show r < 16 by omega), rI, e26, hbit, bI_eq0]
          cases hi : inR (gin g) r with
          | false => simp only [if_true]; exact fin _
          | true => simp only [Bool.true_eq_false, if_false]; exact fin _
        · have e3 : ¬ i32 w = i32 3 := fun z => w3 ((hw 3 (by omega) (by omega)).mp z)
          simp only [eq_false e3, if_false]
          by_cases w4 : w = 4
          · have e := (hw 4 (by omega) (by omega)).mpr w4
            simp only [eq_true e, if_true, k_rep C t1 hT4, r_ag H hg.1 hr2.1 hrr, xbs, bI_eq0]
            cases hi : rpF (bT (gb g) r) with
            | false => simp only [if_true]; exact fin _
            | true => simp only [Bool.true_eq_false, if_false]; exact fin _
          · have e4 : ¬ i32 w = i32 4 := fun z => w4 ((hw 4 (by omega) (by omega)).mp z)
            simp only [eq_false e4, if_false]
            unfold jf_X12_fails
            simp only [i32_lit, rsI, xbs, xb2s]
            exact ⟨2, _, _, _, rfl, rfl, hrk _, fu_same _ _ _, Or.inr (Or.inr rfl), fun e => absurd e (by decide)⟩
end OPRULE

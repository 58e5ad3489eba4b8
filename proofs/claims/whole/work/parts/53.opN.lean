/-! asked, code, skip, fault: the class only reads -/
def OPp (mm mi : Nat → Nat) (hB : xH) (M : Nat) (J : Nat → Int64) (g' : Sg) (X : Option Int32) (Y : Option (Int32 × xH)) : Prop := ∃ v I' A', X = some v ∧ Y = some (v, rst mm mi hB M I' A' J) ∧ RRep I' A' g' ∧ I' 2 = i32 0
section OPN
variable {ty : xTy} {N M : Nat} {hA hB h0 : xH} {mm mi : Nat → Nat} {c : CS} {I : Nat → Int32} {A : Nat → Nat → Int32} {J : Nat → Int64} {g : Sg} {b : Bk}
theorem OPp.ret (hr : RRep I A g) {v : Int32} {X : Option Int32} {Y : Option (Int32 × xH)} (hX : X = some v) (hY : Y = some (v, rst mm mi hB M (fu I 2 (i32 0)) A J)) : OPp mm mi hB M J g X Y := ⟨v, _, A, hX, hY, hr.ks (fun k _ h _ => fu_ne _ _ h) keepA.rf, fu_same _ _ _⟩
theorem op_asked (C : CH ty N) (H : MH ty M mm mi hB) (hg : gwf g) (hc : CRep c g) (hr : RRep I A g) {k : Int} (f1 : -2147483648 ≤ k) (f2 : k < 2147483648) :
    OPp mm mi hB M J g (jf_X11_asked ty (cst N hA c) (N + 0) (i32 k)) (jf_X12_asked ty (rst mm mi hB M I A J) M (i32 k)) := by
  have hql := gq_l hg
  have hr2 : RRep (fu I 2 (i32 0)) A g := hr.ks (fun k _ h _ => fu_ne _ _ h) keepA.rf
  unfold jf_X11_asked jf_X12_asked
  simp (disch := omega) only [i32_lit, i32_neg, i32_add, i32_sub, i32_mul, i32_lt, i32_le, i32_eq, rsI, xbs, rI, hr2.2.2.1.2.1, k_ask C hc.1]
  by_cases w1 : 0 ≤ k
  · simp only [eq_true w1, if_true]
    rw [t_codeOr C hc.2.2.1 w1 f2]
    by_cases w2 : ((gq g).length : Int) ≤ k
    · simp only [eq_true w2, if_true]
      refine OPp.ret hr rfl ?_
      rw [List.getElem?_eq_none (by omega)]
      rfl
    · obtain ⟨d, hd⟩ := get_some (L := gq g) (i := k.toNat) (by omega)
      have hs := seg_get hr2.2.2.1.1 hd
      rw [Nat.zero_add] at hs
      simp (disch := omega) only [eq_false w2, if_false, rr_27 H, ga_27 H, xbs, hs]
      refine OPp.ret hr rfl ?_
      rw [hd]
      rfl
  · simp only [eq_false w1, if_false]
    exact OPp.ret hr rfl rfl
theorem op_fault (C : CH ty N) (hc : CRep c g) (hr : RRep I A g) {k : Int} (f1 : -2147483648 ≤ k) (f2 : k < 2147483648) :
    OPp mm mi hB M J g (jf_X11_fault ty (cst N hA c) (N + 0) (i32 k)) (jf_X12_fault ty (rst mm mi hB M I A J) M (i32 k)) := by
  have hr2 : RRep (fu I 2 (i32 0)) A g := hr.ks (fun k _ h _ => fu_ne _ _ h) keepA.rf
  have e8 := k_sub (h0 := hA) C hc.1 (show (0, 8, 226) ∈ lyL by decide) (by omega) (show ct 226 = some (0, 4) by decide)
  have h3 : xI (cst N hA c) (N + 226) 3 = i32 (gfl g).1 := by rw [kI (by omega), hc.2.2.2.2.2.2.1]
  have h4 : xI (cst N hA c) (N + 226) 4 = i32 (gfl g).2 := by rw [kI (by omega), hc.2.2.2.2.2.2.2]
  unfold jf_X11_fault jf_X12_fault
  simp (disch := omega) only [i32_lit, i32_neg, i32_add, i32_sub, i32_mul, i32_lt, i32_le, i32_eq, rsI, xbs, rI, hr2.2.2.2.2.2.2.1, hr2.2.2.2.2.2.2.2, e8, h3, h4]
  by_cases w1 : k = 0
  · simp only [eq_true w1, if_true]
    exact OPp.ret hr rfl rfl
  · simp only [eq_false w1, if_false]
    by_cases w2 : k = 1
    · simp only [eq_true w2, if_true]
      exact OPp.ret hr rfl rfl
    · simp only [eq_false w2, if_false]
      exact OPp.ret hr rfl rfl
theorem op_code (C : CH ty N) (H : MH ty M mm mi hB) (hg : gwf g) (hc : CRep c g) (hr : RRep I A g) {r k s : Int} (b1 : -2147483648 ≤ r) (b2 : r < 2147483648) (f1 : -2147483648 ≤ k) (f2 : k < 2147483648) (s1 : -2147483648 ≤ s) (s2 : s < 2147483648) :
    OPp mm mi hB M J g (jf_X11_code ty (cst N hA c) (N + 0) (i32 r) (i32 k) (i32 s)) (jf_X12_code ty (rst mm mi hB M I A J) M (i32 r) (i32 k) (i32 s)) := by
  have h16 := hg.1.2.2.1
  have hr2 : RRep (fu I 2 (i32 0)) A g := hr.ks (fun k _ h _ => fu_ne _ _ h) keepA.rf
  unfold jf_X11_code jf_X12_code
  simp (disch := omega) only [i32_lit, i32_neg, i32_add, i32_sub, i32_mul, i32_lt, i32_le, i32_eq, rsI, xbs, bI_eq0, k_book C hc.1, k_hasRule hg.1 hc.1.bk hc.2.1 b1 b2, r_isRule hg.1 hr2.1.2.2.1 b1 b2]
  cases hR : isR (gb g) r with
  | false =>
    simp only [if_true]
    exact OPp.ret hr rfl rfl
  | true =>
  obtain ⟨r, rfl, hrr⟩ := isR_r hR
  obtain ⟨t1, t2, t3, t4⟩ := hc.tm hg hrr
  have lr := (hg.lo hrr).2.1
  have hrow := hr2.1.2.2.2.2.2 r hrr
  have lu : (bU (gb g) r).length ≤ 12 := by
    rcases (hg.1.2.2.2.2 r hrr).2 with h | h
    · rw [h]; simp
    · exact h.1.2.1
  simp (disch := omega) only [Bool.true_eq_false, if_false, k_termOf C hc.1 hc.1.bk, k_rightOf C hc.1 hc.1.bk, xbs, kck C t1.1, kck C t2.1, rr_22 H, ga_22 H, rr_24 H, ga_24 H, Int.toNat_natCast, hrow.2.1, hrow.2.2.2.1]
  by_cases w1 : 0 ≤ k
  · simp only [eq_true w1, if_true]
    obtain ⟨k, rfl⟩ : ∃ n : Nat, k = n := ⟨k.toNat, by omega⟩
    unfold jf_X12_code_39
    simp (disch := omega) only [i32_lit, i32_neg, i32_add, i32_sub, i32_mul, i32_lt, i32_le, i32_eq]
    by_cases w2 : s = 0
    · simp only [eq_true w2, if_true]
      rw [t_codeOr C t1 w1 f2]
      by_cases w3 : (k : Int) < ((bT (gb g) r).length : Int)
      · obtain ⟨d, hd⟩ := get_some (L := bT (gb g) r) (i := k) (by omega)
        have hs := hrow.2.2.1 k d hd
        rw [show (12 * (r : Int) + (k : Int)) = ((12 * r + k : Nat) : Int) by omega]
        simp (disch := omega) only [eq_true w3, if_true, rr_23 H, ga_23 H, xbs, Int.toNat_natCast, hs, hd]
        exact OPp.ret hr rfl rfl
      · simp only [eq_false w3, if_false]
        refine OPp.ret hr rfl ?_
        rw [List.getElem?_eq_none (by omega)]
        rfl
    · simp only [eq_false w2, if_false]
      rw [t_codeOr C t2 w1 f2]
      by_cases w3 : (k : Int) < ((bU (gb g) r).length : Int)
      · obtain ⟨d, hd⟩ := get_some (L := bU (gb g) r) (i := k) (by omega)
        have hs := hrow.2.2.2.2 k d hd
        rw [show (12 * (r : Int) + (k : Int)) = ((12 * r + k : Nat) : Int) by omega]
        simp (disch := omega) only [eq_true w3, if_true, rr_25 H, ga_25 H, xbs, Int.toNat_natCast, hs, hd]
        exact OPp.ret hr rfl rfl
      · simp only [eq_false w3, if_false]
        refine OPp.ret hr rfl ?_
        rw [List.getElem?_eq_none (by omega)]
        rfl
  · simp only [eq_false w1, if_false]
    exact OPp.ret hr rfl rfl
end OPN

/-! specific -/
section OPK
variable {ty : xTy} {N M : Nat} {hA hB h0 : xH} {mm mi : Nat → Nat} {c : CS} {I : Nat → Int32} {A : Nat → Nat → Int32} {J : Nat → Int64} {g : Sg} {b : Bk}
noncomputable def ftN (g : Sg) (how : Nat) : Nat := bitsF (ftP g how (gin g) (gq g)) (bnr (gb g))
/-- the first of k rules from r on that is among F and above none of F -/
def spL (b : Bk) (F lo : Nat) : Nat → Nat → Nat
  | 0, _ => lo
  | k + 1, r => if inR F r && decide (abN b r &&& F = 0) then r else spL b F lo k (r + 1)
theorem low_ex {z : Nat} (hz : z ≠ 0) : ∃ k, z.testBit k = true ∧ ∀ j, j < k → z.testBit j = false := by
  obtain ⟨i, hi⟩ := Nat.exists_testBit_of_ne_zero hz
  induction i using Nat.strongRecOn with
  | ind i ih =>
    by_cases h : ∃ j, j < i ∧ z.testBit j = true
    · obtain ⟨j, h1, h2⟩ := h
      exact ih j h1 h2
    · exact ⟨i, hi, fun j hj => by
        cases hb : z.testBit j with
        | false => rfl
        | true => exact absurd ⟨j, hj, hb⟩ h⟩
theorem k_sp45 (C : CH ty N) (hg : gwf g) {F lo : Nat} (hF : F < 65536) (h1 : F.testBit lo = true) (h2 : ∀ j, j < lo → F.testBit j = false) : ∀ (k r : Nat) (c : CS), r + k = bnr (gb g) → CRep c g →
    ∃ n c', jf_X11_specific_45 ty n (N + 0) (i32 F) (i32 r) (cst N h0 c) = some (i32 (spL (gb g) F lo k r : Nat), cst N h0 c') ∧ fr 241 257 c c' := by
  have h16 := hg.1.2.2.1
  intro k
  induction k with
  | zero =>
    intro r c hk hc
    refine ⟨1, c, ?_, fr.rf⟩
    rw [jf_X11_specific_45_s]
    simp (disch := omega) only [k_book C hc.1, xbs, k_bn hc, i32_lit, i32_neg, i32_add, i32_sub, i32_mul, i32_lt, i32_le, i32_eq, if_pos, ntz hF h1 h2]
    rfl
  | succ k ih =>
    intro r c hk hc
    have hr : r < bnr (gb g) := by omega
    cases hi : inR F r with
    | false =>
      obtain ⟨n, c', q1, q2⟩ := ih (r + 1) c (by omega) hc
      refine ⟨n + 1, c', ?_, q2⟩
      rw [jf_X11_specific_45_s]
      simp (disch := omega) only [k_book C hc.1, xbs, k_bn hc, i32_lit, i32_neg, i32_add, i32_sub, i32_mul, i32_lt, i32_le, i32_eq, if_neg, hasBit_n, bI_eq0, hi, if_true]
      rw [show (r : Int) + 1 = ((r + 1 : Nat) : Int) by omega, q1]
      simp [spL, hi]
    | true =>
      obtain ⟨c1, p1, p2⟩ := k_ab (h0 := h0) C hg hc hr
      have hal : abN (gb g) r < 65536 := abN_lt hg r
      have hand : abN (gb g) r &&& F < 65536 := Nat.lt_of_le_of_lt Nat.and_le_left hal
      by_cases hz : abN (gb g) r &&& F = 0
      · refine ⟨1, c1, ?_, p2⟩
        rw [jf_X11_specific_45_s]
        simp (disch := omega) only [k_book C hc.1, xbs, k_bn hc, i32_lit, i32_neg, i32_add, i32_sub, i32_mul, i32_lt, i32_le, i32_eq, if_neg, hasBit_n, bI_eq0, hi, Bool.true_eq_false, if_false, p1, xb2s, i32_and, hz]
        simp [spL, hi, hz]
      · obtain ⟨n, c', q1, q2⟩ := ih (r + 1) c1 (by omega) (hc.fr hg p2 (by omega))
        refine ⟨n + 1, c', ?_, p2.tr q2⟩
        rw [jf_X11_specific_45_s]
        simp (disch := omega) only [k_book C hc.1, xbs, k_bn hc, i32_lit, i32_neg, i32_add, i32_sub, i32_mul, i32_lt, i32_le, i32_eq, if_neg, hasBit_n, bI_eq0, hi, Bool.true_eq_false, if_false, p1, xb2s, i32_and]
        rw [show (r : Int) + 1 = ((r + 1 : Nat) : Int) by omega, q1]
        simp [spL, hi, hz]
theorem r_sp109 (H : MH ty M mm mi h0) (hg : gwf g) {F lo : Nat} (hF : F < 65536) : ∀ (k r : Nat) (I : Nat → Int32) (A : Nat → Nat → Int32), r + k = bnr (gb g) → RRep I A g →
    ∃ n I' A', jf_X12_specific_109 ty n M (i32 F) (i32 lo) (i32 r) (rst mm mi h0 M I A J) = some (i32 (spL (gb g) F lo k r : Nat), rst mm mi h0 M I' A' J) ∧ (∀ k, k ≠ 33 → I' k = I k) ∧ keepA A A' := by
  have h16 := hg.1.2.2.1
  intro k
  induction k with
  | zero =>
    intro r I A hk hR
    refine ⟨1, I, A, ?_, fun _ _ => rfl, keepA.rf⟩
    rw [jf_X12_specific_109_s]
    simp (disch := omega) only [rI, hR.1.2.2.1, i32_lit, i32_neg, i32_add, i32_sub, i32_mul, i32_lt, i32_le, i32_eq, if_pos]
    rfl
  | succ k ih =>
    intro r I A hk hR
    have hr : r < bnr (gb g) := by omega
    cases hi : inR F r with
    | false =>
      obtain ⟨n, I', A', q1, q2, q3⟩ := ih (r + 1) I A (by omega) hR
      refine ⟨n + 1, I', A', ?_, q2, q3⟩
      rw [jf_X12_specific_109_s]
      simp (disch := omega) only [rI, hR.1.2.2.1, i32_lit, i32_neg, i32_add, i32_sub, i32_mul, i32_lt, i32_le, i32_eq, if_neg, isOf_i, xbs, bI_eq0, hi, if_true]
      rw [show (r : Int) + 1 = ((r + 1 : Nat) : Int) by omega, q1]
      simp [spL, hi]
    | true =>
      obtain ⟨I1, A1, p1, p2, p3⟩ := r_ab (I := I) (A := A) (J := J) H hg.1 hR.1 hr
      have hal : abN (gb g) r < 65536 := abN_lt hg r
      have hand : abN (gb g) r &&& F < 65536 := Nat.lt_of_le_of_lt Nat.and_le_left hal
      by_cases hz : abN (gb g) r &&& F = 0
      · refine ⟨1, I1, A1, ?_, p2, p3⟩
        rw [jf_X12_specific_109_s]
        simp (disch := omega) only [rI, hR.1.2.2.1, i32_lit, i32_neg, i32_add, i32_sub, i32_mul, i32_lt, i32_le, i32_eq, if_neg, isOf_i, xbs, bI_eq0, hi, Bool.true_eq_false, if_false, p1, xb2s, i32_and, hz]
        simp [spL, hi, hz]
      · obtain ⟨n, I', A', q1, q2, q3⟩ := ih (r + 1) I1 A1 (by omega) (hR.ks (fun k h _ _ => p2 k h) p3)
        refine ⟨n + 1, I', A', ?_, fun k hk => (q2 k hk).trans (p2 k hk), p3.tr q3⟩
        rw [jf_X12_specific_109_s]
        simp (disch := omega) only [rI, hR.1.2.2.1, i32_lit, i32_neg, i32_add, i32_sub, i32_mul, i32_lt, i32_le, i32_eq, if_neg, isOf_i, xbs, bI_eq0, hi, Bool.true_eq_false, if_false, p1, xb2s, i32_and]
        rw [show (r : Int) + 1 = ((r + 1 : Nat) : Int) by omega, q1]
        simp [spL, hi, hz]
/-- the model looks for the lowest bit from above -/
def loD (F : Nat) (v : Int) : Nat → Int
  | 0 => v
  | j + 1 => loD F (if inR F j then (j : Int) else v) j
theorem r_sp79 {F : Nat} (hF : F < 65536) {h : xH} : ∀ (j : Nat) (v : Int), j ≤ 16 → ∃ n, ∀ r, (xlim fun n109 => jf_X12_specific_109 ty n109 M (i32 F) (i32 (loD F v j)) (i32 0) h) = some r → jf_X12_specific_79 ty n M (i32 F) (i32 v) (i32 ((j : Int) - 1)) h = some r := by
  intro j
  induction j with
  | zero =>
    intro v hj
    refine ⟨1, fun r hr => ?_⟩
    rw [jf_X12_specific_79_s]
    simp (disch := omega) only [i32_lit, i32_neg, i32_add, i32_sub, i32_mul, i32_lt, i32_le, i32_eq, if_pos]
    exact hr
  | succ j ih =>
    intro v hj
    obtain ⟨n, hn⟩ := ih (if inR F j then (j : Int) else v) (by omega)
    refine ⟨n + 1, fun r hr => ?_⟩
    have := hn r hr
    rw [jf_X12_specific_79_s, show ((j + 1 : Nat) : Int) - 1 = (j : Int) by omega]
    simp (disch := omega) only [i32_lit, i32_neg, i32_add, i32_sub, i32_mul, i32_lt, i32_le, i32_eq, if_neg, isOf_i, xbs, bI_eq0]
    rw [show (j : Int) + -1 = (j : Int) - 1 by omega]
    cases hi : inR F j with
    | false =>
      simp only [if_true]
      rw [hi] at this
      simpa using this
    | true =>
      simp only [Bool.true_eq_false, if_false]
      rw [hi] at this
      simpa using this
theorem loD_low {F k : Nat} (h1 : F.testBit k = true) (h2 : ∀ j, j < k → F.testBit j = false) : ∀ (j : Nat) (v : Int), k < j ∨ v = k → loD F v j = k
  | 0, v, h => by
    rcases h with h | h
    · omega
    · exact h
  | j + 1, v, h => by
    simp only [loD]
    by_cases hjk : j = k
    · subst hjk
      have : inR F j = true := h1
      rw [this]
      exact loD_low h1 h2 j _ (Or.inr (by simp))
    · by_cases hlt : j < k
      · have : inR F j = false := h2 j hlt
        rw [this]
        exact loD_low h1 h2 j _ (by rcases h with h | h; omega; exact Or.inr (by simpa using h))
      · exact loD_low h1 h2 j _ (Or.inl (by omega))
theorem r_sp27 (H : MH ty M mm mi h0) (hg : gwf g) (hq : twf (gb g) (gq g)) {how : Nat} (hh : how ≤ 2) : ∀ (k r : Nat) (I : Nat → Int32) (A : Nat → Nat → Int32), r + k = bnr (gb g) → RRep I A g →
    ∃ n I' A', (∀ k, k ≠ 33 → I' k = I k) ∧ keepA A A' ∧ ∀ v, (xlim fun n79 => jf_X12_specific_79 ty n79 M (i32 (ftN g how : Nat)) (i32 (-2)) (i32 ((bnr (gb g) : Int) - 1)) (rst mm mi h0 M I' A' J)) = some v → jf_X12_specific_27 ty n M (i32 how) (i32 (bitsF (ftP g how (gin g) (gq g)) r : Nat)) (i32 r) (rst mm mi h0 M I A J) = some v := by
  have h16 := hg.1.2.2.1
  intro k
  induction k with
  | zero =>
    intro r I A hk hR
    refine ⟨1, I, A, fun _ _ => rfl, keepA.rf, fun v hv => ?_⟩
    rw [jf_X12_specific_27_s]
    simp (disch := omega) only [rI, hR.1.2.2.1, i32_lit, i32_neg, i32_add, i32_sub, i32_mul, i32_lt, i32_le, i32_eq, if_pos]
    rw [show r = bnr (gb g) by omega]
    exact hv
  | succ k ih =>
    intro r I A hk hR
    have hr : r < bnr (gb g) := by omega
    cases hi : inR (gin g) r with
    | false =>
      obtain ⟨n, I', A', q1, q2, q3⟩ := ih (r + 1) I A (by omega) hR
      refine ⟨n + 1, I', A', q1, q2, fun v hv => ?_⟩
      have hq3 := q3 v hv
      rw [jf_X12_specific_27_s]
      simp (disch := omega) only [rI, hR.1.2.2.1, i32_lit, i32_neg, i32_add, i32_sub, i32_mul, i32_lt, i32_le, i32_eq, if_neg, r_isInNow hg.z hR.2.1, xbs, bI_eq0, hi, if_true, or_zero]
      rw [bitsF_f (n := r) (by simp [ftP, hi])] at hq3
      rw [show (r : Int) + 1 = ((r + 1 : Nat) : Int) by omega]
      exact hq3
    | true =>
      obtain ⟨I1, A1, p1, p2, p3⟩ := r_fit0 (I := I) (A := A) (J := J) H hg hR hq hr hh
      obtain ⟨n, I', A', q1, q2, q3⟩ := ih (r + 1) I1 A1 (by omega) (hR.ks (fun k h _ _ => p2 k h) p3)
      refine ⟨n + 1, I', A', fun k hk => (q1 k hk).trans (p2 k hk), p3.tr q2, fun v hv => ?_⟩
      have hq3 := q3 v hv
      rw [jf_X12_specific_27_s]
      simp (disch := omega) only [rI, hR.1.2.2.1, i32_lit, i32_neg, i32_add, i32_sub, i32_mul, i32_lt, i32_le, i32_eq, if_neg, r_isInNow hg.z hR.2.1, xbs, bI_eq0, hi, Bool.true_eq_false, if_false, p1, xb2s]
      rw [show (r : Int) + 1 = ((r + 1 : Nat) : Int) by omega]
      cases hm : fit (bar (gb g)) how (bT (gb g) r) (gq g) with
      | false =>
        rw [bitsF_f (n := r) (by simp [ftP, hm])] at hq3
        simp only [if_true, or_zero]
        exact hq3
      | true =>
        rw [bitsF_t (n := r) (by simp [ftP, hm, hi])] at hq3
        simp only [Bool.true_eq_false, if_false]
        rw [or_bit _ _ (by omega)]
        exact hq3
end OPK

/-! tops, beside -/
section OPD
variable {ty : xTy} {N M : Nat} {hA hB h0 : xH} {mm mi : Nat → Nat} {c : CS} {I : Nat → Int32} {A : Nat → Nat → Int32} {J : Nat → Int64} {g : Sg}
/-- another rule that is in is above r, and r isn't above it -/
def tpQ (g : Sg) (r o : Nat) : Bool := decide (o ≠ r) && inR (gin g) o && mtB (bar (gb g)) (bT (gb g) o) (bT (gb g) r) && !(mtB (bar (gb g)) (bT (gb g) r) (bT (gb g) o))
/-- none of the first n -/
def tpN (g : Sg) (r n : Nat) : Bool := (List.range n).all (fun o => !(tpQ g r o))
theorem tpN_s (g : Sg) (r n : Nat) : tpN g r (n + 1) = (tpN g r n && !(tpQ g r n)) := by simp [tpN, List.range_succ]
def tpP (g : Sg) (r : Nat) : Bool := inR (gin g) r && tpN g r (bnr (gb g))
theorem tp_false {g : Sg} {r o n : Nat} (h : tpQ g r o = true) (ho : o < n) : tpN g r n = false := by
  unfold tpN
  rw [List.all_eq_false]
  exact ⟨o, List.mem_range.mpr ho, by simp [h]⟩
theorem k_top11 (C : CH ty N) (hg : gwf g) {r : Nat} (hr : r < bnr (gb g)) {B : Nat} : ∀ (k o : Nat) (c : CS), o + k = bnr (gb g) → CRep c g → cR c 0 2 = B → tpN g r o = true →
    ∃ n c', jf_X11_isTop_11 ty n (N + 0) (i32 r) (N + (B + 10 + 6 * r)) (i32 o) (cst N h0 c) = some (bI (tpN g r (bnr (gb g))), cst N h0 c') ∧ fr 241 257 c c' := by
  have h16 := hg.1.2.2.1
  intro k
  induction k with
  | zero =>
    intro o c h1 hc hB ht
    refine ⟨1, c, ?_, fr.rf⟩
    rw [jf_X11_isTop_11_s]
    simp (disch := omega) only [k_book C hc.1, xbs, k_bn hc, i32_lit, i32_neg, i32_add, i32_sub, i32_mul, i32_lt, i32_le, i32_eq, if_pos]
    rw [show o = bnr (gb g) by omega] at ht
    rw [ht]
    rfl
  | succ k ih =>
    intro o c h1 hc hB ht
    subst hB
    have ho : o < bnr (gb g) := by omega
    have hskip : ∀ c1, fr 241 257 c c1 → tpQ g r o = false → ∃ n c', jf_X11_isTop_11 ty n (N + 0) (i32 r) (N + (cR c 0 2 + 10 + 6 * r)) (i32 ((o + 1 : Nat) : Int)) (cst N h0 c1) = some (bI (tpN g r (bnr (gb g))), cst N h0 c') ∧ fr 241 257 c c' := by
      intro c1 f1 hq
      obtain ⟨n, c', q1, q2⟩ := ih (o + 1) c1 (by omega) (hc.fr hg f1 (by omega)) (by rw [f1.2.1]) (by rw [tpN_s, ht, hq]; rfl)
      exact ⟨n, c', q1, f1.tr q2⟩
    have e11 := k_sub (h0 := h0) C hc.1 (show (0, 11, 241) ∈ lyL by decide) (by omega) (show ct 241 = some (0, 3) by decide)
    have e9 := k_sub (h0 := h0) C hc.1 (show (0, 9, 232) ∈ lyL by decide) (by omega) (show ct 232 = some (0, 6) by decide)
    have to := (hc.tm hg ho).1.1
    by_cases hor : o = r
    · obtain ⟨n, c', q1, q2⟩ := hskip c fr.rf (by simp [tpQ, hor])
      refine ⟨n + 1, c', ?_, q2⟩
      rw [jf_X11_isTop_11_s]
      simp (disch := omega) only [k_book C hc.1, xbs, k_bn hc, i32_lit, i32_neg, i32_add, i32_sub, i32_mul, i32_lt, i32_le, i32_eq, if_neg]
      rw [if_pos (by omega), show (o : Int) + 1 = ((o + 1 : Nat) : Int) by omega]
      exact q1
    cases hin : inR (gin g) o with
    | false =>
      obtain ⟨n, c', q1, q2⟩ := hskip c fr.rf (by simp [tpQ, hin])
      refine ⟨n + 1, c', ?_, q2⟩
      rw [jf_X11_isTop_11_s]
      simp (disch := omega) only [k_book C hc.1, xbs, k_bn hc, i32_lit, i32_neg, i32_add, i32_sub, i32_mul, i32_lt, i32_le, i32_eq, if_neg, e9, k_isIn hg.z hc.2.2.2.1, bI_eq0, hin, if_true]
      rw [show (o : Int) + 1 = ((o + 1 : Nat) : Int) by omega]
      exact q1
    | true =>
    obtain ⟨c1, p1, p2⟩ := k_above1 (h0 := h0) C hg hc ho hr
    cases hm : mtB (bar (gb g)) (bT (gb g) o) (bT (gb g) r) with
    | false =>
      obtain ⟨n, c', q1, q2⟩ := hskip c1 p2 (by simp [tpQ, hm])
      refine ⟨n + 1, c', ?_, q2⟩
      rw [jf_X11_isTop_11_s]
      simp (disch := omega) only [k_book C hc.1, xbs, k_bn hc, i32_lit, i32_neg, i32_add, i32_sub, i32_mul, i32_lt, i32_le, i32_eq, if_neg, e9, e11, k_isIn hg.z hc.2.2.2.1, bI_eq0, hin, Bool.true_eq_false, if_false, k_termOf C hc.1 hc.1.bk, kck C to, p1, xb2s, hm, if_true]
      rw [show (o : Int) + 1 = ((o + 1 : Nat) : Int) by omega]
      exact q1
    | true =>
    have hc1 := hc.fr hg p2 (by omega)
    have hB1 : cR c1 0 2 = cR c 0 2 := by rw [p2.2.1]
    have ht1 : jf_X0_termOf ty (cst N h0 c1) (N + cR c 0 2) (i32 o) = some (N + (cR c 0 2 + 10 + 6 * o)) := by
      rw [← hB1]
      exact k_termOf C hc1.1 hc1.1.bk (by omega)
    obtain ⟨c2, s1, s2⟩ := k_above1 (h0 := h0) C hg hc1 hr ho
    rw [hB1] at s1
    have e11' := k_sub (h0 := h0) C hc1.1 (show (0, 11, 241) ∈ lyL by decide) (by omega) (show ct 241 = some (0, 3) by decide)
    cases hm2 : mtB (bar (gb g)) (bT (gb g) r) (bT (gb g) o) with
    | false =>
      refine ⟨1, c2, ?_, p2.tr s2⟩
      rw [jf_X11_isTop_11_s, tp_false (show tpQ g r o = true by simp [tpQ, hm, hm2, hor, hin]) ho]
      simp (disch := omega) only [k_book C hc.1, k_book C hc1.1, xbs, k_bn hc, i32_lit, i32_neg, i32_add, i32_sub, i32_mul, i32_lt, i32_le, i32_eq, if_neg, e9, e11, e11', k_isIn hg.z hc.2.2.2.1, bI_eq0, hin, Bool.true_eq_false, if_false, k_termOf C hc.1 hc.1.bk, ht1, kck C to, p1, xb2s, hm, hB1]
      simp (disch := omega) only [xbs, s1, xb2s, hm2, bI_eq0, if_true]
      rfl
    | true =>
      obtain ⟨n, c', q1, q2⟩ := hskip c2 (p2.tr s2) (by simp [tpQ, hm2])
      refine ⟨n + 1, c', ?_, q2⟩
      rw [jf_X11_isTop_11_s]
      simp (disch := omega) only [k_book C hc.1, k_book C hc1.1, xbs, k_bn hc, i32_lit, i32_neg, i32_add, i32_sub, i32_mul, i32_lt, i32_le, i32_eq, if_neg, e9, e11, e11', k_isIn hg.z hc.2.2.2.1, bI_eq0, hin, Bool.true_eq_false, if_false, k_termOf C hc.1 hc.1.bk, ht1, kck C to, p1, xb2s, hm, hB1]
      simp (disch := omega) only [xbs, s1, xb2s, hm2, bI_eq0, Bool.true_eq_false, if_false]
      rw [show (o : Int) + 1 = ((o + 1 : Nat) : Int) by omega]
      exact q1
theorem k_tops4 (C : CH ty N) (hg : gwf g) : ∀ (k r : Nat) (c : CS), r + k = bnr (gb g) → CRep c g →
    ∃ n c', jf_X11_tops_4 ty n (N + 0) (i32 (bitsF (tpP g) r : Nat)) (i32 r) (cst N h0 c) = some (i32 (bitsF (tpP g) (bnr (gb g)) : Nat), cst N h0 c') ∧ fr 241 257 c c' := by
  have h16 := hg.1.2.2.1
  intro k
  induction k with
  | zero =>
    intro r c h1 hc
    refine ⟨1, c, ?_, fr.rf⟩
    rw [jf_X11_tops_4_s]
    simp (disch := omega) only [k_book C hc.1, xbs, k_bn hc, i32_lit, i32_neg, i32_add, i32_sub, i32_mul, i32_lt, i32_le, i32_eq, if_pos]
    rw [show r = bnr (gb g) by omega]
  | succ k ih =>
    intro r c h1 hc
    have hr : r < bnr (gb g) := by omega
    have e9 := k_sub (h0 := h0) C hc.1 (show (0, 9, 232) ∈ lyL by decide) (by omega) (show ct 232 = some (0, 6) by decide)
    cases hin : inR (gin g) r with
    | false =>
      obtain ⟨n, c', q1, q2⟩ := ih (r + 1) c (by omega) hc
      refine ⟨n + 1, c', ?_, q2⟩
      rw [jf_X11_tops_4_s]
      simp (disch := omega) only [k_book C hc.1, xbs, k_bn hc, i32_lit, i32_neg, i32_add, i32_sub, i32_mul, i32_lt, i32_le, i32_eq, if_neg, e9, k_isIn hg.z hc.2.2.2.1, bI_eq0, hin, if_true]
      rw [show (r : Int) + 1 = ((r + 1 : Nat) : Int) by omega, ← q1, bitsF_f (n := r) (by simp [tpP, hin])]
    | true =>
      obtain ⟨n1, c1, p1, p2⟩ := k_top11 (h0 := h0) C hg hr (bnr (gb g)) 0 c (by omega) hc rfl (by rfl)
      have ptop : jf_X11_isTop ty (cst N h0 c) (N + 0) (i32 r) = some (bI (tpN g r (bnr (gb g))), cst N h0 c1) := by
        unfold jf_X11_isTop
        simp (disch := omega) only [k_book C hc.1, xbs, k_termOf C hc.1 hc.1.bk, kck C (hc.tm hg hr).1.1]
        exact jf_X11_isTop_11_l p1
      obtain ⟨n, c', q1, q2⟩ := ih (r + 1) c1 (by omega) (hc.fr hg p2 (by omega))
      refine ⟨n + 1, c', ?_, p2.tr q2⟩
      rw [jf_X11_tops_4_s]
      simp (disch := omega) only [k_book C hc.1, xbs, k_bn hc, i32_lit, i32_neg, i32_add, i32_sub, i32_mul, i32_lt, i32_le, i32_eq, if_neg, e9, k_isIn hg.z hc.2.2.2.1, bI_eq0, hin, Bool.true_eq_false, if_false, ptop, xb2s]
      rw [show (r : Int) + 1 = ((r + 1 : Nat) : Int) by omega]
      cases ht : tpN g r (bnr (gb g)) with
      | false =>
        rw [bitsF_f (n := r) (by simp [tpP, ht])] at q1
        simp only [if_true]
        exact q1
      | true =>
        rw [bitsF_t (n := r) (by simp [tpP, ht, hin])] at q1
        simp only [Bool.true_eq_false, if_false]
        rw [or_bit _ _ (by omega)]
        exact q1
/-- what the model holds: rows before r are done, in row r the first o -/
def tpA (g : Sg) (x r o : Nat) : Prop := x < 65536 ∧ ∀ i, x.testBit i = (inR (gin g) i && (if i < r then tpN g i (bnr (gb g)) else if i = r then tpN g r o else true))
theorem r_tops22 (H : MH ty M mm mi h0) (hg : gwf g) {r : Nat} (hr : r < bnr (gb g)) : ∀ (k o x : Nat) (I : Nat → Int32) (A : Nat → Nat → Int32), o + k = bnr (gb g) → RRep I A g → tpA g x r o →
    ∃ n x' I' A', tpA g x' (r + 1) 0 ∧ (∀ k12 : Nat → Int32 → Int32 → xH → Option (Int32 × xH), jf_X12_tops_22 ty k12 n M (i32 (x : Nat)) (i32 r) (i32 o) (rst mm mi h0 M I A J) = k12 M (i32 (x' : Nat)) (i32 ((r + 1 : Nat) : Int)) (rst mm mi h0 M I' A' J)) ∧ (∀ k, k ≠ 33 → I' k = I k) ∧ keepA A A' := by
  have h16 := hg.1.2.2.1
  have fin : ∀ x, tpA g x r (bnr (gb g)) → tpA g x (r + 1) 0 := by
    intro x hx
    refine ⟨hx.1, fun i => ?_⟩
    rw [hx.2 i]
    by_cases h1 : i < r
    · rw [if_pos h1, if_pos (by omega)]
    · rw [if_neg h1]
      by_cases h2 : i = r
      · subst h2; rw [if_pos rfl, if_pos (by omega)]
      · rw [if_neg h2, if_neg (by omega)]
        by_cases h3 : i = r + 1
        · subst h3; rw [if_pos rfl]; rfl
        · rw [if_neg h3]
  intro k
  induction k with
  | zero =>
    intro o x I A h1 hR hx
    obtain rfl : o = bnr (gb g) := by omega
    refine ⟨1, x, I, A, fin x hx, fun k12 => ?_, fun _ _ => rfl, keepA.rf⟩
    rw [jf_X12_tops_22_s]
    simp (disch := omega) only [rI, hR.1.2.2.1, i32_lit, i32_neg, i32_add, i32_sub, i32_mul, i32_lt, i32_le, i32_eq, if_pos]
    rw [show (r : Int) + 1 = ((r + 1 : Nat) : Int) by omega]
  | succ k ih =>
    intro o x I A h1 hR hx
    have ho : o < bnr (gb g) := by omega
    cases hir : inR (gin g) r with
    | false =>
      refine ⟨1, x, I, A, fin x ⟨hx.1, fun i => ?_⟩, fun k12 => ?_, fun _ _ => rfl, keepA.rf⟩
      · rw [hx.2 i]
        by_cases h2 : i = r
        · subst h2; rw [hir]; rfl
        · by_cases h1 : i < r
          · rw [if_pos h1, if_pos h1]
          · rw [if_neg h1, if_neg h1, if_neg h2, if_neg h2]
      · rw [jf_X12_tops_22_s]
        simp (disch := omega) only [rI, hR.1.2.2.1, i32_lit, i32_neg, i32_add, i32_sub, i32_mul, i32_lt, i32_le, i32_eq, if_neg, r_isInNow hg.z hR.2.1, xbs, bI_eq0, hir, if_true]
        rw [show (r : Int) + 1 = ((r + 1 : Nat) : Int) by omega]
    | true =>
    have hskip : tpQ g r o = false → tpA g x r (o + 1) := fun hq => ⟨hx.1, fun i => by
      rw [hx.2 i]
      by_cases h1 : i < r
      · rw [if_pos h1, if_pos h1]
      · rw [if_neg h1, if_neg h1]
        by_cases h2 : i = r
        · subst h2; rw [if_pos rfl, if_pos rfl, tpN_s, hq]; simp
        · rw [if_neg h2, if_neg h2]⟩
    by_cases hor : o = r
    · obtain ⟨n, x', I', A', q0, q1, q2, q3⟩ := ih (o + 1) x I A (by omega) hR (hskip (by simp [tpQ, hor]))
      refine ⟨n + 1, x', I', A', q0, fun k12 => ?_, q2, q3⟩
      rw [jf_X12_tops_22_s]
      simp (disch := omega) only [rI, hR.1.2.2.1, i32_lit, i32_neg, i32_add, i32_sub, i32_mul, i32_lt, i32_le, i32_eq, if_neg, r_isInNow hg.z hR.2.1, xbs, bI_eq0, hir, Bool.true_eq_false, if_false]
      rw [if_pos (by omega), show (o : Int) + 1 = ((o + 1 : Nat) : Int) by omega]
      exact q1 k12
    cases hin : inR (gin g) o with
    | false =>
      obtain ⟨n, x', I', A', q0, q1, q2, q3⟩ := ih (o + 1) x I A (by omega) hR (hskip (by simp [tpQ, hin]))
      refine ⟨n + 1, x', I', A', q0, fun k12 => ?_, q2, q3⟩
      rw [jf_X12_tops_22_s]
      simp (disch := omega) only [rI, hR.1.2.2.1, i32_lit, i32_neg, i32_add, i32_sub, i32_mul, i32_lt, i32_le, i32_eq, if_neg, r_isInNow hg.z hR.2.1, xbs, bI_eq0, hir, hin, Bool.true_eq_false, if_false, if_true]
      rw [show (o : Int) + 1 = ((o + 1 : Nat) : Int) by omega]
      exact q1 k12
    | true =>
    obtain ⟨I1, A1, p1, p2, p3⟩ := r_above1 (I := I) (A := A) (J := J) H hg.1 hR.1 ho hr
    have hR1 : RRep I1 A1 g := hR.ks (fun k h _ _ => p2 k h) p3
    cases hm : mtB (bar (gb g)) (bT (gb g) o) (bT (gb g) r) with
    | false =>
      obtain ⟨n, x', I', A', q0, q1, q2, q3⟩ := ih (o + 1) x I1 A1 (by omega) hR1 (hskip (by simp [tpQ, hm]))
      refine ⟨n + 1, x', I', A', q0, fun k12 => ?_, fun k hk => (q2 k hk).trans (p2 k hk), p3.tr q3⟩
      rw [jf_X12_tops_22_s]
      simp (disch := omega) only [rI, hR.1.2.2.1, i32_lit, i32_neg, i32_add, i32_sub, i32_mul, i32_lt, i32_le, i32_eq, if_neg, r_isInNow hg.z hR.2.1, xbs, bI_eq0, hir, hin, Bool.true_eq_false, if_false, if_true, p1, xb2s, hm]
      rw [show (o : Int) + 1 = ((o + 1 : Nat) : Int) by omega]
      exact q1 k12
    | true =>
    obtain ⟨I2, A2, s1, s2, s3⟩ := r_above1 (I := I1) (A := A1) (J := J) H hg.1 hR1.1 hr ho
    have hR2 : RRep I2 A2 g := hR1.ks (fun k h _ _ => s2 k h) s3
    cases hm2 : mtB (bar (gb g)) (bT (gb g) r) (bT (gb g) o) with
    | false =>
      have hq : tpQ g r o = true := by simp [tpQ, hm, hm2, hor, hin]
      have hx2 : tpA g (x ^^^ (x &&& 2 ^ r)) r (o + 1) := by
        have hr16 : r < 16 := by omega
        refine ⟨Nat.xor_lt_two_pow (n := 16) hx.1 (Nat.lt_of_le_of_lt Nat.and_le_left hx.1), fun i => ?_⟩
        rw [Nat.testBit_xor, Nat.testBit_and, Nat.testBit_two_pow, hx.2 i]
        by_cases h2 : i = r
        · subst h2
          rw [if_neg (by omega), if_pos rfl, if_neg (by omega), if_pos rfl, tpN_s, hq]
          simp
        · rw [decide_eq_false (fun z => h2 z.symm)]
          simp only [Bool.and_false, Bool.xor_false]
          by_cases h1 : i < r
          · rw [if_pos h1, if_pos h1]
          · rw [if_neg h1, if_neg h1, if_neg h2, if_neg h2]
      obtain ⟨n, x', I', A', q0, q1, q2, q3⟩ := ih (o + 1) _ I2 A2 (by omega) hR2 hx2
      refine ⟨n + 1, x', I', A', q0, fun k12 => ?_, fun k hk => (q2 k hk).trans ((s2 k hk).trans (p2 k hk)), p3.tr (s3.tr q3)⟩
      rw [jf_X12_tops_22_s]
      simp (disch := omega) only [rI, hR.1.2.2.1, i32_lit, i32_neg, i32_add, i32_sub, i32_mul, i32_lt, i32_le, i32_eq, if_neg, r_isInNow hg.z hR.2.1, xbs, bI_eq0, hir, hin, Bool.true_eq_false, if_false, if_true, p1, xb2s, hm, s1, hm2]
      rw [show (o : Int) + 1 = ((o + 1 : Nat) : Int) by omega, i32_clr _ (show r < 31 by omega)]
      exact q1 k12
    | true =>
      obtain ⟨n, x', I', A', q0, q1, q2, q3⟩ := ih (o + 1) x I2 A2 (by omega) hR2 (hskip (by simp [tpQ, hm2]))
      refine ⟨n + 1, x', I', A', q0, fun k12 => ?_, fun k hk => (q2 k hk).trans ((s2 k hk).trans (p2 k hk)), p3.tr (s3.tr q3)⟩
      rw [jf_X12_tops_22_s]
      simp (disch := omega) only [rI, hR.1.2.2.1, i32_lit, i32_neg, i32_add, i32_sub, i32_mul, i32_lt, i32_le, i32_eq, if_neg, r_isInNow hg.z hR.2.1, xbs, bI_eq0, hir, hin, Bool.true_eq_false, if_false, if_true, p1, xb2s, hm, s1, hm2]
      rw [show (o : Int) + 1 = ((o + 1 : Nat) : Int) by omega]
      exact q1 k12
theorem r_tops12 (H : MH ty M mm mi h0) (hg : gwf g) : ∀ (k r x : Nat) (I : Nat → Int32) (A : Nat → Nat → Int32), r + k = bnr (gb g) → RRep I A g → tpA g x r 0 →
    ∃ n I' A', jf_X12_tops_12 ty n M (i32 (x : Nat)) (i32 r) (rst mm mi h0 M I A J) = some (i32 (bitsF (tpP g) (bnr (gb g)) : Nat), rst mm mi h0 M I' A' J) ∧ (∀ k, k ≠ 33 → I' k = I k) ∧ keepA A A' := by
  have h16 := hg.1.2.2.1
  intro k
  induction k with
  | zero =>
    intro r x I A h1 hR hx
    obtain rfl : r = bnr (gb g) := by omega
    refine ⟨1, I, A, ?_, fun _ _ => rfl, keepA.rf⟩
    rw [jf_X12_tops_12_s]
    simp (disch := omega) only [rI, hR.1.2.2.1, i32_lit, i32_neg, i32_add, i32_sub, i32_mul, i32_lt, i32_le, i32_eq, if_pos]
    have : x = bitsF (tpP g) (bnr (gb g)) := by
      refine Nat.eq_of_testBit_eq (fun i => ?_)
      rw [hx.2 i, bitsF_bit]
      by_cases h : i < bnr (gb g)
      · rw [if_pos h, decide_eq_true h]; rfl
      · have : inR (gin g) i = false := bit_lt hg.2.2.1 (by omega)
        rw [this, decide_eq_false h]; rfl
    rw [this]
  | succ k ih =>
    intro r x I A h1 hR hx
    have hr : r < bnr (gb g) := by omega
    obtain ⟨nA, x', I1, A1, t0, t1, t2, t3⟩ := r_tops22 (J := J) H hg hr (bnr (gb g)) 0 x I A (by omega) hR hx
    obtain ⟨n, I', A', q1, q2, q3⟩ := ih (r + 1) x' I1 A1 (by omega) (hR.ks (fun k h _ _ => t2 k h) t3) t0
    refine ⟨n + 1, I', A', ?_, fun k hk => (q2 k hk).trans (t2 k hk), t3.tr q3⟩
    rw [jf_X12_tops_12_s]
    simp (disch := omega) only [rI, hR.1.2.2.1, i32_lit, i32_neg, i32_add, i32_sub, i32_mul, i32_lt, i32_le, i32_eq, if_neg]
    exact jf_X12_tops_22_l ((t1 _).trans q1)
end OPD

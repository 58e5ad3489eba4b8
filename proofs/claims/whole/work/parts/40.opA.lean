/-! BITS of numbers that have a property -/
def bitsF (p : Nat → Bool) : Nat → Nat
  | 0 => 0
  | n + 1 => bitsF p n ||| (if p n then 2 ^ n else 0)
theorem bitsF_lt (p : Nat → Bool) : ∀ n, bitsF p n < 2 ^ n
  | 0 => Nat.zero_lt_one
  | n + 1 => by
    have h1 := bitsF_lt p n
    have h2 : 2 ^ n < 2 ^ (n + 1) := Nat.pow_lt_pow_right (by decide) (by omega)
    refine Nat.or_lt_two_pow (by omega) ?_
    split
    · exact h2
    · exact Nat.two_pow_pos _
theorem bitsF_bit (p : Nat → Bool) (k : Nat) : ∀ n, (bitsF p n).testBit k = (decide (k < n) && p k)
  | 0 => by simp [bitsF]
  | n + 1 => by
    simp only [bitsF, Nat.testBit_or, bitsF_bit p k n]
    by_cases hk : k = n
    · subst hk
      cases hp : p k <;> simp
    · have : (if p n = true then 2 ^ n else 0).testBit k = false := by
        split
        · rw [Nat.testBit_two_pow]; simp; omega
        · simp
      rw [this, Bool.or_false]
      by_cases h : k < n
      · rw [decide_eq_true h, decide_eq_true (show k < n + 1 by omega)]
      · rw [decide_eq_false h, decide_eq_false (show ¬ k < n + 1 by omega)]
theorem bitsF_16 {p : Nat → Bool} {n : Nat} (h : n ≤ 16) : bitsF p n < 65536 := Nat.lt_of_lt_of_le (bitsF_lt p n) (pow16 h)
theorem bitsF_cong {p q : Nat → Bool} : ∀ n, (∀ k, k < n → p k = q k) → bitsF p n = bitsF q n
  | 0, _ => rfl
  | n + 1, h => by simp only [bitsF, bitsF_cong n (fun k hk => h k (by omega)), h n (by omega)]
theorem or_bit (x n : Nat) (hn : n < 31) : i32 x ||| (i32 1 <<< (i32 (n : Nat) &&& i32 31)) = i32 ((x ||| 2 ^ n : Nat) : Int) := by
  rw [show i32 31 = (31 : Int32) from rfl, i32_shl1 n hn, i32_or]
theorem or_zero (x : Nat) : i32 x ||| i32 0 = i32 (x : Nat) := by
  rw [show i32 0 = i32 ((0 : Nat) : Int) from rfl, i32_or, Nat.or_zero]
theorem bitsF_t {p : Nat → Bool} {n : Nat} (h : p n = true) : bitsF p (n + 1) = bitsF p n ||| 2 ^ n := by simp only [bitsF, h, if_true]
theorem bitsF_f {p : Nat → Bool} {n : Nat} (h : p n = false) : bitsF p (n + 1) = bitsF p n := by simp [bitsF, h]
/-! WHAT BOTH ANSWER: from one state to one -/
def OP (N : Nat) (hA : xH) (mm mi : Nat → Nat) (hB : xH) (M : Nat) (J : Nat → Int64) (g' : Sg) (X Y : Option (Int32 × xH)) : Prop := ∃ v c' I' A', X = some (v, cst N hA c') ∧ CRep c' g' ∧ Y = some (v, rst mm mi hB M I' A' J) ∧ RRep I' A' g' ∧ I' 2 = i32 0
section OPA
variable {ty : xTy} {N M : Nat} {h0 : xH} {mm mi : Nat → Nat} {c : CS} {I : Nat → Int32} {A : Nat → Nat → Int32} {J : Nat → Int64} {g : Sg} {b : Bk}
theorem CRep.tm {c : CS} (hg : gwf g) (h : CRep c g) {r : Nat} (hr : r < bnr (gb g)) : isT c (cR c 0 2 + 10 + 6 * r) 12 (bar (gb g)) (bT (gb g) r) ∧ isT c (cR c 0 2 + 13 + 6 * r) 12 (bar (gb g)) (bU (gb g) r) ∧ cR c 0 2 + 13 + 6 * r + 3 ≤ 220 ∧ r < 16 := by
  have h16 := hg.1.2.2.1
  have hB := h.1.bk
  exact ⟨(h.2.1.2.2.2.2.2 r hr).2.1, (h.2.1.2.2.2.2.2 r hr).2.2, by omega, by omega⟩
theorem CRep.n {c : CS} (h : CRep c g) : cI c (cR c 0 2) 9 = i32 (bnr (gb g)) := h.2.1.2.2.1
theorem gwf.lo (hg : gwf g) {r : Nat} (hr : r < bnr (gb g)) : tlo (gb g) (bT (gb g) r) := ((hg.1.2.2.2.2 r hr).1).lo hg.1
theorem k_bn (hc : CRep c g) : xI (cst N h0 c) (N + cR c 0 2) 9 = i32 (bnr (gb g)) := by
  rw [kI (by have := hc.1.bk; omega), hc.n]
/-- how one rule's term is made from another's -/
theorem k_above1 (C : CH ty N) (hg : gwf g) (hc : CRep c g) {r o : Nat} (hr : r < bnr (gb g)) (ho : o < bnr (gb g)) :
    ∃ c', jf_X3_matches ty (cst N h0 c) (N + 241) (N + (cR c 0 2 + 10 + 6 * r)) (N + (cR c 0 2 + 10 + 6 * o)) (i32 0) = some (bI (mtB (bar (gb g)) (bT (gb g) r) (bT (gb g) o)), cst N h0 c') ∧ fr 241 257 c c' := by
  obtain ⟨t1, -, t3, -⟩ := hc.tm hg hr
  obtain ⟨u1, -, u3, -⟩ := hc.tm hg ho
  obtain ⟨c', q1, q2, -⟩ := k_mt (h0 := h0) C hg.1 hc.1 t1 u1 (hg.lo hr) (hg.lo ho) (by omega) (by omega)
  exact ⟨c', q1, q2.wide (by omega) (by omega)⟩
/-- both rules in the model's heap -/
theorem r_lay2 (H : MH ty M mm mi h0) (hb : bwf b) (hR : RB I A b) {r s : Nat} (hr : r < bnr b) (hs : s < bnr b) {v w : Nat} (hv : v < 16) (hw : w < 16) :
    ∃ I' A', (∃ A1, jf_X12_clears ty (rst mm mi h0 M I A J) M = some (rst mm mi h0 M (fu I 33 (i32 0)) A1 J) ∧ ∃ I2 A2, jf_X12_putsRule ty (rst mm mi h0 M (fu I 33 (i32 0)) A1 J) M (i32 r) (i32 v) = some (i32 0, rst mm mi h0 M I2 A2 J) ∧ jf_X12_putsRule ty (rst mm mi h0 M I2 A2 J) M (i32 s) (i32 w) = some (i32 ((bT b r).length : Nat), rst mm mi h0 M I' A' J)) ∧
      (∀ k, k ≠ 33 → I' k = I k) ∧ keepA A A' ∧ seg (A' 32) 0 ((bT b r).map (sh v) ++ (bT b s).map (sh w)) ∧ arR A' (bar b) ((bT b r).map (sh v) ++ (bT b s).map (sh w)) ∧ ∀ x, x < 48 → A' 34 x = i32 (-1) := by
  have hT := (hb.2.2.2.2 r hr).1
  have hS := (hb.2.2.2.2 s hs).1
  obtain ⟨A1, c1, c2, c3⟩ := r_clears (I := I) (A := A) (J := J) H
  have kA1 : keepA A A1 := keepA.but c2 (by decide)
  have kI1 : keepI I (fu I 33 (i32 0)) := keepI.fu (by decide)
  obtain ⟨A2, p1, p2, p3, p4⟩ := r_putsRule (I := fu I 33 (i32 0)) (A := A1) (J := J) (v := v) H hb (hR.keep kI1 kA1) hr (by omega) (at1 := 0) (by rw [fu_same]; rfl) (by omega)
  have kA2 : keepA A A2 := kA1.tr (keepA.but p2 (by decide))
  obtain ⟨I2, hI2⟩ : ∃ I2, I2 = fu (fu I 33 (i32 0)) 33 (i32 ((0 + (bT b r).length : Nat) : Int)) := ⟨_, rfl⟩
  have hI2k : ∀ k, k ≠ 33 → I2 k = I k := fun k hk => by rw [hI2, fu_ne _ _ hk, fu_ne _ _ hk]
  have kI2 : keepI I I2 := fun k hk => hI2k k (fun z => by subst z; revert hk; decide)
  rw [← hI2] at p1
  obtain ⟨A3, r1, r2, r3, r4⟩ := r_putsRule (I := I2) (A := A2) (J := J) (v := w) H hb (hR.keep kI2 kA2) hs (by omega) (at1 := (bT b r).length) (by rw [hI2, fu_same, Nat.zero_add]) (by have := hT.2.1; omega)
  have kA3 : keepA A A3 := kA2.tr (keepA.but r2 (by decide))
  refine ⟨_, A3, ⟨A1, c1, I2, A2, p1, r1⟩, fun k hk => by rw [fu_ne _ _ hk]; exact hI2k k hk, kA3, ?_, ?_, fun x hx => by rw [r2 34 (by decide), p2 34 (by decide)]; exact c3 x hx⟩
  · rw [seg_app]
    refine ⟨fun i d hd => ?_, ?_⟩
    · have hi := (List.getElem?_eq_some_iff.mp hd).1
      rw [List.length_map] at hi
      rw [r3 (0 + i) (by omega)]
      rw [putK_sh hv] at p4
      exact p4 i d hd
    · rw [Nat.zero_add, List.length_map]
      rw [putK_sh hw] at r4
      exact r4
  · refine ar19 hb hR (kA3 19 (by decide)) (fun d hd => ?_)
    rcases List.mem_append.mp hd with hd | hd
    · exact ((hT.lo hb).sh hb (by omega)).2 d hd
    · exact ((hS.lo hb).sh hb (by omega)).2 d hd
theorem r_above1 (H : MH ty M mm mi h0) (hb : bwf b) (hR : RB I A b) {r o : Nat} (hr : r < bnr b) (ho : o < bnr b) :
    ∃ I' A', jf_X12_isAbove ty (rst mm mi h0 M I A J) M (i32 r) (i32 o) = some (bI (mtB (bar b) (bT b r) (bT b o)), rst mm mi h0 M I' A' J) ∧ (∀ k, k ≠ 33 → I' k = I k) ∧ keepA A A' := by
  have hT := ((hb.2.2.2.2 r hr).1).lo hb
  have hO := ((hb.2.2.2.2 o ho).1).lo hb
  obtain ⟨I3, A3, ⟨A1, e1, I2, A2, e2, e3⟩, k1, k2, s1, s2, s3⟩ := r_lay2 (I := I) (A := A) (J := J) H hb hR ho hr (v := 8) (w := 4) (by omega) (by omega)
  have s1' := seg_app.mp s1
  rw [Nat.zero_add, List.length_map] at s1'
  obtain ⟨A4, x1, x2⟩ := r_madeXY (I := I3) (J := J) H (bar_z b) hT.1 hO.1 s1'.2 s1'.1 (s2.sub (fun c hc => by simp [hc])) (s2.sub (fun c hc => by simp [hc])) (by have := hT.2.1; have := hO.2.1; omega) (by have := hO.2.1; omega) s3
  refine ⟨I3, A4, ?_, k1, k2.tr (keepA.but x2 (by decide))⟩
  unfold jf_X12_isAbove
  simp only [e1, xbs]
  rw [show (8 : Int32) = i32 ((8 : Nat) : Int) from rfl, show (4 : Int32) = i32 ((4 : Nat) : Int) from rfl, e2]
  simp only [xb2s]
  rw [e3]
  simp only [xb2s, show i32 0 = i32 ((0 : Nat) : Int) from rfl, x1, xz_b, xbs]
def abP (b : Bk) (r o : Nat) : Bool := decide (o ≠ r) && mtB (bar b) (bT b r) (bT b o)
def abN (b : Bk) (r : Nat) : Nat := bitsF (abP b r) (bnr b)
theorem k_ab4 (C : CH ty N) (hg : gwf g) {r : Nat} (hr : r < bnr (gb g)) : ∀ (k o : Nat) (c : CS), o + k = bnr (gb g) → CRep c g →
    ∃ n c', jf_X11_aboveBits_4 ty n (N + 0) (i32 r) (i32 (bitsF (abP (gb g) r) o : Nat)) (i32 o) (cst N h0 c) = some (i32 (abN (gb g) r : Nat), cst N h0 c') ∧ fr 241 257 c c' := by
  have h16 := hg.1.2.2.1
  intro k
  induction k with
  | zero =>
    intro o c h1 hc
    refine ⟨1, c, ?_, fr.rf⟩
    rw [jf_X11_aboveBits_4_s]
    simp (disch := omega) only [k_book C hc.1, xbs, k_bn hc, i32_lit, i32_neg, i32_add, i32_sub, i32_mul, i32_lt, i32_le, i32_eq, if_pos]
    unfold abN
    rw [show o = bnr (gb g) by omega]
  | succ k ih =>
    intro o c h1 hc
    have ho : o < bnr (gb g) := by omega
    by_cases hor : o = r
    · obtain ⟨n, c', q1, q2⟩ := ih (o + 1) c (by omega) hc
      refine ⟨n + 1, c', ?_, q2⟩
      rw [jf_X11_aboveBits_4_s]
      simp (disch := omega) only [k_book C hc.1, xbs, k_bn hc, i32_lit, i32_neg, i32_add, i32_sub, i32_mul, i32_lt, i32_le, i32_eq, if_neg]
      rw [if_pos (by omega), show (o : Int) + 1 = ((o + 1 : Nat) : Int) by omega, ← q1, bitsF_f (n := o) (by simp [abP, hor])]
    · obtain ⟨c1, p1, p2⟩ := k_above1 (h0 := h0) C hg hc hr ho
      have hc1 := hc.fr hg p2 (by omega)
      obtain ⟨n, c', q1, q2⟩ := ih (o + 1) c1 (by omega) hc1
      refine ⟨n + 1, c', ?_, p2.tr q2⟩
      have tr := (hc.tm hg hr).1.1
      have to := (hc.tm hg ho).1.1
      rw [jf_X11_aboveBits_4_s]
      simp (disch := omega) only [k_book C hc.1, xbs, k_bn hc, i32_lit, i32_neg, i32_add, i32_sub, i32_mul, i32_lt, i32_le, i32_eq, if_neg, k_sub C hc.1 (show (0, 11, 241) ∈ lyL by decide) (by omega) (show ct 241 = some (0, 3) by decide), k_termOf C hc.1 hc.1.bk, kck C tr, kck C to, p1, xb2s, bI_eq0]
      rw [show (o : Int) + 1 = ((o + 1 : Nat) : Int) by omega]
      cases hm : mtB (bar (gb g)) (bT (gb g) r) (bT (gb g) o) with
      | false =>
        rw [bitsF_f (n := o) (by simp [abP, hm])] at q1
        simp only [if_true]
        exact q1
      | true =>
        rw [bitsF_t (n := o) (by simp [abP, hm, hor])] at q1
        simp only [Bool.true_eq_false, if_false]
        rw [← q1, or_bit _ _ (by omega)]
theorem k_ab (C : CH ty N) (hg : gwf g) (hc : CRep c g) {r : Nat} (hr : r < bnr (gb g)) : ∃ c', jf_X11_aboveBits ty (cst N h0 c) (N + 0) (i32 r) = some (i32 (abN (gb g) r : Nat), cst N h0 c') ∧ fr 241 257 c c' := by
  obtain ⟨n, c', q1, q2⟩ := k_ab4 (h0 := h0) C hg hr (bnr (gb g)) 0 c (by omega) hc
  exact ⟨c', jf_X11_aboveBits_4_l q1, q2⟩
theorem r_ab4 (H : MH ty M mm mi h0) (hb : bwf b) {r : Nat} (hr : r < bnr b) : ∀ (k o : Nat) (I : Nat → Int32) (A : Nat → Nat → Int32), o + k = bnr b → RB I A b →
    ∃ n I' A', jf_X12_aboveBits_4 ty n M (i32 r) (i32 (bitsF (abP b r) o : Nat)) (i32 o) (rst mm mi h0 M I A J) = some (i32 (abN b r : Nat), rst mm mi h0 M I' A' J) ∧ (∀ k, k ≠ 33 → I' k = I k) ∧ keepA A A' := by
  have h16 := hb.2.2.1
  intro k
  induction k with
  | zero =>
    intro o I A h1 hR
    refine ⟨1, I, A, ?_, fun _ _ => rfl, keepA.rf⟩
    rw [jf_X12_aboveBits_4_s]
    simp (disch := omega) only [rI, hR.2.2.1, i32_lit, i32_neg, i32_add, i32_sub, i32_mul, i32_lt, i32_le, i32_eq, if_pos]
    unfold abN
    rw [show o = bnr b by omega]
  | succ k ih =>
    intro o I A h1 hR
    have ho : o < bnr b := by omega
    by_cases hor : o = r
    · obtain ⟨n, I', A', q1, q2, q3⟩ := ih (o + 1) I A (by omega) hR
      refine ⟨n + 1, I', A', ?_, q2, q3⟩
      rw [jf_X12_aboveBits_4_s]
      simp (disch := omega) only [rI, hR.2.2.1, i32_lit, i32_neg, i32_add, i32_sub, i32_mul, i32_lt, i32_le, i32_eq, if_neg]
      rw [if_pos (by omega), show (o : Int) + 1 = ((o + 1 : Nat) : Int) by omega, or_zero, ← q1, bitsF_f (n := o) (by simp [abP, hor])]
    · obtain ⟨I1, A1, p1, p2, p3⟩ := r_above1 (I := I) (A := A) (J := J) H hb hR hr ho
      have hR1 := hR.keep (fun k hk => p2 k (fun z => by subst z; revert hk; decide)) p3
      obtain ⟨n, I', A', q1, q2, q3⟩ := ih (o + 1) I1 A1 (by omega) hR1
      refine ⟨n + 1, I', A', ?_, fun k hk => (q2 k hk).trans (p2 k hk), p3.tr q3⟩
      rw [jf_X12_aboveBits_4_s]
      simp (disch := omega) only [rI, hR.2.2.1, i32_lit, i32_neg, i32_add, i32_sub, i32_mul, i32_lt, i32_le, i32_eq, if_neg, p1, xb2s, bI_eq0]
      rw [show (o : Int) + 1 = ((o + 1 : Nat) : Int) by omega]
      cases hm : mtB (bar b) (bT b r) (bT b o) with
      | false =>
        rw [bitsF_f (n := o) (by simp [abP, hm])] at q1
        simp only [if_true]
        rw [or_zero]
        exact q1
      | true =>
        rw [bitsF_t (n := o) (by simp [abP, hm, hor])] at q1
        simp only [Bool.true_eq_false, if_false]
        rw [← q1, or_bit _ _ (by omega)]
theorem r_ab (H : MH ty M mm mi h0) (hb : bwf b) (hR : RB I A b) {r : Nat} (hr : r < bnr b) : ∃ I' A', jf_X12_aboveBits ty (rst mm mi h0 M I A J) M (i32 r) = some (i32 (abN b r : Nat), rst mm mi h0 M I' A' J) ∧ (∀ k, k ≠ 33 → I' k = I k) ∧ keepA A A' := by
  obtain ⟨n, I', A', q1, q2, q3⟩ := r_ab4 (J := J) H hb hr (bnr b) 0 I A (by omega) hR
  exact ⟨I', A', jf_X12_aboveBits_4_l q1, q2, q3⟩
end OPA

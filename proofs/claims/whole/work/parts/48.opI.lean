/-! criticals -/
def sumF (f : Nat → Nat) : Nat → Nat
  | 0 => 0
  | n + 1 => sumF f n + f n
theorem sumF_le {f : Nat → Nat} {m : Nat} (h : ∀ k, f k ≤ m) : ∀ n, sumF f n ≤ n * m
  | 0 => Nat.zero_le _
  | n + 1 => by
    have := sumF_le h n
    have := h n
    simp only [sumF, Nat.add_mul, Nat.one_mul]
    omega
theorem cntB_le : ∀ (k n : Nat), cntB n k ≤ k
  | 0, _ => Nat.le_refl _
  | k + 1, n => by
    have := cntB_le k (n / 2)
    simp only [cntB]
    omega
theorem cntB_0 : ∀ k, cntB 0 k = 0
  | 0 => rfl
  | k + 1 => by simp [cntB, cntB_0 k]
theorem cntB_hi : ∀ (k m z : Nat), z < 2 ^ k → cntB z (k + m) = cntB z k
  | 0, m, z, h => by
    obtain rfl : z = 0 := by simpa using h
    rw [cntB_0, cntB_0]
  | k + 1, m, z, h => by
    rw [show k + 1 + m = (k + m) + 1 by omega]
    simp only [cntB]
    rw [cntB_hi k m (z / 2) (by rw [Nat.pow_succ] at h; omega)]
theorem ovN_lt {g : Sg} (hg : gwf g) {r : Nat} (hr : r < bnr (gb g)) (s : Nat) : ovN (gb g) r s < 2 ^ 12 := Nat.lt_of_lt_of_le (bitsF_lt _ _) (Nat.pow_le_pow_right (by decide) (hg.lo hr).2.1)
noncomputable def crT (g : Sg) (r s : Nat) : Nat := if inR (gin g) r && inR (gin g) s then cntB (ovN (gb g) r s) 16 else 0
noncomputable def crR (g : Sg) (r : Nat) : Nat := sumF (crT g r) (bnr (gb g))
theorem crT_le (g : Sg) (r s : Nat) : crT g r s ≤ 16 := by unfold crT; split; exact cntB_le _ _; omega
theorem crR_le {g : Sg} (hg : gwf g) (r : Nat) : crR g r ≤ 256 := by
  have := sumF_le (crT_le g r) (bnr (gb g))
  have := hg.1.2.2.1
  unfold crR
  omega
section OPI
variable {ty : xTy} {N M : Nat} {hA hB h0 : xH} {mm mi : Nat → Nat} {c : CS} {I : Nat → Int32} {A : Nat → Nat → Int32} {J : Nat → Int64} {g : Sg} {b : Bk}
theorem k_cr17 (C : CH ty N) (hg : gwf g) {r : Nat} (hr : r < bnr (gb g)) {a : Nat} (ha : a ≤ 10000) : ∀ (k s : Nat) (c : CS), s + k = bnr (gb g) → CRep c g →
    ∃ n c', fr 241 257 c c' ∧ ∀ k4 : Nat → Int32 → Int32 → xH → Option (Int32 × xH), jf_X11_criticals_17 ty k4 n (N + 0) (i32 ((a + sumF (crT g r) s : Nat) : Int)) (i32 r) (i32 s) (cst N h0 c) = k4 (N + 0) (i32 ((a + crR g r : Nat) : Int)) (i32 ((r + 1 : Nat) : Int)) (cst N h0 c') := by
  have h16 := hg.1.2.2.1
  intro k
  induction k with
  | zero =>
    intro s c h1 hc
    refine ⟨1, c, fr.rf, fun k4 => ?_⟩
    rw [jf_X11_criticals_17_s]
    simp (disch := omega) only [k_book C hc.1, xbs, k_bn hc, i32_lit, i32_neg, i32_add, i32_sub, i32_mul, i32_lt, i32_le, i32_eq, if_pos]
    unfold crR
    rw [show s = bnr (gb g) by omega, show (r : Int) + 1 = ((r + 1 : Nat) : Int) by omega]
  | succ k ih =>
    intro s c h1 hc
    have hs : s < bnr (gb g) := by omega
    have hb1 := sumF_le (crT_le g r) s
    have hb2 := crT_le g r s
    have e9 := k_sub (h0 := h0) C hc.1 (show (0, 9, 232) ∈ lyL by decide) (by omega) (show ct 232 = some (0, 6) by decide)
    cases hi : (inR (gin g) r && inR (gin g) s) with
    | false =>
      obtain ⟨n, c', q1, q2⟩ := ih (s + 1) c (by omega) hc
      refine ⟨n + 1, c', q1, fun k4 => ?_⟩
      have e : sumF (crT g r) (s + 1) = sumF (crT g r) s := by simp [sumF, crT, hi]
      rw [jf_X11_criticals_17_s, ← q2 k4, e]
      simp (disch := omega) only [k_book C hc.1, xbs, k_bn hc, i32_lit, i32_neg, i32_add, i32_sub, i32_mul, i32_lt, i32_le, i32_eq, if_neg, e9, k_isIn hg.z hc.2.2.2.1, bI_eq0]
      rw [show (s : Int) + 1 = ((s + 1 : Nat) : Int) by omega]
      cases h1 : inR (gin g) r with
      | false => simp only [if_true]
      | true =>
        rw [h1, Bool.true_and] at hi
        simp only [hi, Bool.true_eq_false, if_false, if_true]
    | true =>
      obtain ⟨h1', h2'⟩ := Bool.and_eq_true_iff.mp hi
      obtain ⟨c1, p1, p2⟩ := k_ov (h0 := h0) C hg hc hr hs
      obtain ⟨n, c', q1, q2⟩ := ih (s + 1) c1 (by omega) (hc.fr hg p2 (by omega))
      refine ⟨n + 1, c', p2.tr q1, fun k4 => ?_⟩
      have e : sumF (crT g r) (s + 1) = sumF (crT g r) s + cntB (ovN (gb g) r s) 16 := by simp [sumF, crT, hi]
      have hl := ovN_lt hg hr s
      have hcb := cntB_le 16 (ovN (gb g) r s)
      rw [jf_X11_criticals_17_s, ← q2 k4, e]
      simp (disch := omega) only [k_book C hc.1, xbs, k_bn hc, i32_lit, i32_neg, i32_add, i32_sub, i32_mul, i32_lt, i32_le, i32_eq, if_neg, e9, k_isIn hg.z hc.2.2.2.1, bI_eq0, h1', h2', Bool.true_eq_false, if_false, p1, xb2s, pc16]
      rw [show (s : Int) + 1 = ((s + 1 : Nat) : Int) by omega, show ((a + sumF (crT g r) s : Nat) : Int) + (cntB (ovN (gb g) r s) 16 : Int) = ((a + (sumF (crT g r) s + cntB (ovN (gb g) r s) 16) : Nat) : Int) by omega]
theorem k_cr4 (C : CH ty N) (hg : gwf g) : ∀ (k r : Nat) (c : CS), r + k = bnr (gb g) → CRep c g →
    ∃ n c', jf_X11_criticals_4 ty n (N + 0) (i32 (sumF (crR g) r : Nat)) (i32 r) (cst N h0 c) = some (i32 (sumF (crR g) (bnr (gb g)) : Nat), cst N h0 c') ∧ fr 241 257 c c' := by
  have h16 := hg.1.2.2.1
  intro k
  induction k with
  | zero =>
    intro r c h1 hc
    refine ⟨1, c, ?_, fr.rf⟩
    rw [jf_X11_criticals_4_s]
    simp (disch := omega) only [k_book C hc.1, xbs, k_bn hc, i32_lit, i32_neg, i32_add, i32_sub, i32_mul, i32_lt, i32_le, i32_eq, if_pos]
    rw [show r = bnr (gb g) by omega]
  | succ k ih =>
    intro r c h1 hc
    have hr : r < bnr (gb g) := by omega
    have hb1 := sumF_le (crR_le hg) r
    obtain ⟨n1, c1, p1, p2⟩ := k_cr17 (h0 := h0) C hg hr (a := sumF (crR g) r) (by omega) (bnr (gb g)) 0 c (by omega) hc
    obtain ⟨n, c', q1, q2⟩ := ih (r + 1) c1 (by omega) (hc.fr hg p1 (by omega))
    refine ⟨n + 1, c', ?_, p1.tr q2⟩
    rw [jf_X11_criticals_4_s]
    simp (disch := omega) only [k_book C hc.1, xbs, k_bn hc, i32_lit, i32_neg, i32_add, i32_sub, i32_mul, i32_lt, i32_le, i32_eq, if_neg]
    exact jf_X11_criticals_17_l ((p2 _).trans q1)
theorem r_cr58 {k9 : Nat → Int32 → Int32 → xH → Option (Int32 × xH)} {k19 : Nat → Int32 → Int32 → Int32 → xH → Option (Int32 × xH)} {r s z : Nat} (hs : s < 100) (hz : z < 65536) {h : xH} : ∀ (k j a : Nat), j + k = 12 → a ≤ 20000 + j →
    jf_X12_criticals_58 ty k9 k19 (k + 1) M (i32 (a : Nat)) (i32 r) (i32 s) (i32 z) (i32 j) h = k19 M (i32 ((a + cntB (z >>> j) k : Nat) : Int)) (i32 r) (i32 ((s + 1 : Nat) : Int)) h := by
  intro k
  induction k with
  | zero =>
    intro j a h1 h2
    rw [jf_X12_criticals_58_s]
    simp (disch := omega) only [i32_lit, i32_neg, i32_add, i32_sub, i32_mul, i32_lt, i32_le, i32_eq, if_pos, cntB]
    rw [show (s : Int) + 1 = ((s + 1 : Nat) : Int) by omega]
    rfl
  | succ k ih =>
    intro j a h1 h2
    rw [jf_X12_criticals_58_s]
    simp (disch := omega) only [i32_lit, i32_neg, i32_add, i32_sub, i32_mul, i32_lt, i32_le, i32_eq, if_neg]
    have hbit : (i32 z >>> (i32 j &&& i32 31)) &&& i32 1 = i32 (((z >>> j) % 2 : Nat) : Int) := by
      rw [show i32 31 = (31 : Int32) from rfl, i32_sshr (by omega) (by omega), i32_one]
    rw [hbit, i32_add, show (j : Int) + 1 = ((j + 1 : Nat) : Int) by omega, show ((a : Nat) : Int) + (((z >>> j) % 2 : Nat) : Int) = ((a + (z >>> j) % 2 : Nat) : Int) by omega, ih (j + 1) _ (by omega) (by omega)]
    simp only [cntB]
    rw [show z >>> (j + 1) = z >>> j / 2 from Nat.shiftRight_succ z j, Nat.add_assoc]
theorem r_cr19 (H : MH ty M mm mi h0) (hg : gwf g) {r : Nat} (hr : r < bnr (gb g)) {a : Nat} (ha : a ≤ 10000) : ∀ (k s : Nat) (I : Nat → Int32) (A : Nat → Nat → Int32), s + k = bnr (gb g) → RRep I A g →
    ∃ n I' A', (∀ k, k ≠ 33 → I' k = I k) ∧ keepA A A' ∧ ∀ (k9 : Nat → Int32 → Int32 → xH → Option (Int32 × xH)) (v : Int32 × xH), k9 M (i32 ((a + crR g r : Nat) : Int)) (i32 ((r + 1 : Nat) : Int)) (rst mm mi h0 M I' A' J) = some v → jf_X12_criticals_19 ty k9 n M (i32 ((a + sumF (crT g r) s : Nat) : Int)) (i32 r) (i32 s) (rst mm mi h0 M I A J) = some v := by
  have h16 := hg.1.2.2.1
  intro k
  induction k with
  | zero =>
    intro s I A h1 hR
    refine ⟨1, I, A, fun _ _ => rfl, keepA.rf, fun k9 v hv => ?_⟩
    rw [jf_X12_criticals_19_s]
    simp (disch := omega) only [rI, hR.1.2.2.1, i32_lit, i32_neg, i32_add, i32_sub, i32_mul, i32_lt, i32_le, i32_eq, if_pos]
    rw [← hv]
    unfold crR
    rw [show s = bnr (gb g) by omega, show (r : Int) + 1 = ((r + 1 : Nat) : Int) by omega]
  | succ k ih =>
    intro s I A h1 hR
    have hs : s < bnr (gb g) := by omega
    have hb1 := sumF_le (crT_le g r) s
    have hb2 := crT_le g r s
    cases hi : (inR (gin g) r && inR (gin g) s) with
    | false =>
      obtain ⟨n, I', A', q1, q2, q3⟩ := ih (s + 1) I A (by omega) hR
      refine ⟨n + 1, I', A', q1, q2, fun k9 v hv => ?_⟩
      have e : sumF (crT g r) (s + 1) = sumF (crT g r) s := by simp [sumF, crT, hi]
      have hq := q3 k9 v hv
      rw [e] at hq
      have h58 := (r_cr58 (M := M) (ty := ty) (k9 := k9) (k19 := jf_X12_criticals_19 ty k9 n) (r := r) (s := s) (z := 0) (by omega) (by omega) (h := rst mm mi h0 M I A J) 12 0 (a + sumF (crT g r) s) (by omega) (by omega))
      rw [Nat.zero_shiftRight, cntB_0, Nat.add_zero] at h58
      have h58' := jf_X12_criticals_58_l (h58.trans hq)
      rw [jf_X12_criticals_19_s]
      simp (disch := omega) only [rI, hR.1.2.2.1, i32_lit, i32_neg, i32_add, i32_sub, i32_mul, i32_lt, i32_le, i32_eq, if_neg, r_isInNow hg.z hR.2.1, xbs, bI_eq0]
      cases h1 : inR (gin g) r with
      | false =>
        simp only [if_true]
        exact h58'
      | true =>
        rw [h1, Bool.true_and] at hi
        simp only [hi, Bool.true_eq_false, if_false, if_true]
        exact h58'
    | true =>
      obtain ⟨h1', h2'⟩ := Bool.and_eq_true_iff.mp hi
      obtain ⟨I1, A1, p1, p2, p3⟩ := r_ov (I := I) (A := A) (J := J) H hg hR hr hs
      obtain ⟨n, I', A', q1, q2, q3⟩ := ih (s + 1) I1 A1 (by omega) (hR.ks (fun k h _ _ => p2 k h) p3)
      refine ⟨n + 1, I', A', fun k hk => (q1 k hk).trans (p2 k hk), p3.tr q2, fun k9 v hv => ?_⟩
      have hl := ovN_lt hg hr s
      have e : sumF (crT g r) (s + 1) = sumF (crT g r) s + cntB (ovN (gb g) r s) 12 := by
        have := cntB_hi 12 4 _ hl
        simp only [sumF, crT, hi, if_true]
        rw [← this]
      have hq := q3 k9 v hv
      rw [e] at hq
      have h58 := (r_cr58 (M := M) (ty := ty) (k9 := k9) (k19 := jf_X12_criticals_19 ty k9 n) (r := r) (s := s) (z := ovN (gb g) r s) (by omega) (by omega) (h := rst mm mi h0 M I1 A1 J) 12 0 (a + sumF (crT g r) s) (by omega) (by omega))
      rw [Nat.shiftRight_zero, Nat.add_assoc] at h58
      have h58' := jf_X12_criticals_58_l (h58.trans hq)
      rw [jf_X12_criticals_19_s]
      simp (disch := omega) only [rI, hR.1.2.2.1, i32_lit, i32_neg, i32_add, i32_sub, i32_mul, i32_lt, i32_le, i32_eq, if_neg, r_isInNow hg.z hR.2.1, xbs, bI_eq0, h1', h2', Bool.true_eq_false, if_false, p1, xb2s]
      exact h58'
theorem r_cr9 (H : MH ty M mm mi h0) (hg : gwf g) : ∀ (k r : Nat) (I : Nat → Int32) (A : Nat → Nat → Int32), r + k = bnr (gb g) → RRep I A g →
    ∃ n I' A', jf_X12_criticals_9 ty n M (i32 (sumF (crR g) r : Nat)) (i32 r) (rst mm mi h0 M I A J) = some (i32 (sumF (crR g) (bnr (gb g)) : Nat), rst mm mi h0 M I' A' J) ∧ (∀ k, k ≠ 33 → I' k = I k) ∧ keepA A A' := by
  have h16 := hg.1.2.2.1
  intro k
  induction k with
  | zero =>
    intro r I A h1 hR
    refine ⟨1, I, A, ?_, fun _ _ => rfl, keepA.rf⟩
    rw [jf_X12_criticals_9_s]
    simp (disch := omega) only [rI, hR.1.2.2.1, i32_lit, i32_neg, i32_add, i32_sub, i32_mul, i32_lt, i32_le, i32_eq, if_pos]
    rw [show r = bnr (gb g) by omega]
  | succ k ih =>
    intro r I A h1 hR
    have hr : r < bnr (gb g) := by omega
    have hb1 := sumF_le (crR_le hg) r
    obtain ⟨n1, I1, A1, p1, p2, p3⟩ := r_cr19 (J := J) H hg hr (a := sumF (crR g) r) (by omega) (bnr (gb g)) 0 I A (by omega) hR
    obtain ⟨n, I', A', q1, q2, q3⟩ := ih (r + 1) I1 A1 (by omega) (hR.ks (fun k h _ _ => p1 k h) p2)
    refine ⟨n + 1, I', A', ?_, fun k hk => (q2 k hk).trans (p1 k hk), p2.tr q3⟩
    rw [jf_X12_criticals_9_s]
    simp (disch := omega) only [rI, hR.1.2.2.1, i32_lit, i32_neg, i32_add, i32_sub, i32_mul, i32_lt, i32_le, i32_eq, if_neg]
    exact jf_X12_criticals_19_l (p3 _ _ q1)
theorem op_criticals (C : CH ty N) (H : MH ty M mm mi hB) (hg : gwf g) (hc : CRep c g) (hr : RRep I A g) :
    OP N hA mm mi hB M J g (jf_X11_criticals ty (cst N hA c) (N + 0)) (jf_X12_criticals ty (rst mm mi hB M I A J) M) := by
  have I2 : ∀ k, k ≠ 33 → k ≠ 2 → k ≠ 39 → fu I 2 (i32 0) k = I k := fun k _ h _ => fu_ne _ _ h
  have hr2 : RRep (fu I 2 (i32 0)) A g := hr.ks I2 keepA.rf
  obtain ⟨n, c', q1, q2⟩ := k_cr4 (h0 := hA) C hg (bnr (gb g)) 0 c (by omega) hc
  obtain ⟨n', I', A', p1, p2, p3⟩ := r_cr9 (J := J) H hg (bnr (gb g)) 0 _ _ (by omega) hr2
  refine ⟨_, c', I', A', jf_X11_criticals_4_l q1, hc.fr hg q2 (by omega), ?_, hr2.ks (fun k h _ _ => p2 k h) p3, by rw [p2 2 (by decide), fu_same]⟩
  unfold jf_X12_criticals
  simp only [rsI, xbs, i32_lit, i32_neg, i32_add, i32_sub, i32_mul, i32_lt, i32_le, i32_eq]
  exact jf_X12_criticals_9_l p1
end OPI

/-! which rules fit; the lowest bit -/
noncomputable def ftP (g : Sg) (how : Nat) (z : Nat) (Q : List Nat) (r : Nat) : Bool := inR z r && fit (bar (gb g)) how (bT (gb g) r) Q
theorem low_two {z k : Nat} (h1 : z.testBit k = true) (h2 : ∀ j, j < k → z.testBit j = false) : ∃ q, z = 2 ^ (k + 1) * q + 2 ^ k := by
  refine ⟨z / 2 ^ (k + 1), ?_⟩
  have hm : z % 2 ^ (k + 1) = 2 ^ k := by
    refine Nat.eq_of_testBit_eq (fun i => ?_)
    rw [Nat.testBit_mod_two_pow, Nat.testBit_two_pow]
    by_cases hi : i < k
    · rw [h2 i hi, Bool.and_false, decide_eq_false (by omega)]
    · by_cases hk : i = k
      · subst hk; rw [h1]; simp
      · rw [decide_eq_false (by omega), decide_eq_false (by omega)]; rfl
  have := Nat.div_add_mod z (2 ^ (k + 1))
  rw [hm] at this
  exact this.symm
theorem ntz_m {z k : Nat} (hz : z < 65536) (h1 : z.testBit k = true) (h2 : ∀ j, j < k → z.testBit j = false) : (i32 z ^^^ i32 (-1)) &&& (i32 z - i32 1) = i32 ((2 ^ k - 1 : Nat) : Int) := by
  obtain ⟨q, hq⟩ := low_two h1 h2
  have hp : 0 < 2 ^ k := Nat.two_pow_pos k
  have hz1 : 1 ≤ z := by omega
  have hm1 : z - 1 = 2 ^ (k + 1) * q + (2 ^ k - 1) := by omega
  have hlt : 2 ^ k - 1 < 2 ^ (k + 1) := by rw [Nat.pow_succ]; omega
  rw [i32_sub, show (z : Int) - 1 = ((z - 1 : Nat) : Int) by omega]
  refine b_ext (fun i hi => ?_)
  rw [b_and, b_xor, bt_i _ hi, bt_i _ hi, bt_i _ hi, b_m1' _ hi, hm1, Nat.testBit_two_pow_mul_add q hlt, Nat.testBit_two_pow_sub_one]
  by_cases hk : i < k
  · rw [h2 i hk, if_pos (by omega), decide_eq_true hk]; rfl
  · rw [decide_eq_false hk]
    by_cases hk2 : i = k
    · subst hk2; rw [h1]; rfl
    · rw [if_neg (by omega)]
      have hlt2 : 2 ^ k < 2 ^ (k + 1) := by rw [Nat.pow_succ]; omega
      have e : z.testBit i = q.testBit (i - (k + 1)) := by
        rw [hq, Nat.testBit_two_pow_mul_add q hlt2, if_neg (by omega)]
      rw [e]
      cases q.testBit (i - (k + 1)) <;> rfl
theorem ntz_c {ty : xTy} {h : xH} : ∀ k : Nat, k < 16 → (if (0 : Int32) < i32 ((2 ^ k - 1 : Nat) : Int) then if i32 ((2 ^ k - 1 : Nat) : Int) ≤ 65536 then jf_J6_numberOfTrailingZeros_0f7a4_34 ty h (i32 ((2 ^ k - 1 : Nat) : Int)) 1 else jf_J6_numberOfTrailingZeros_0f7a4_34 ty h (xush (i32 ((2 ^ k - 1 : Nat) : Int)) 16) (1 + 16) else some (i32 ((2 ^ k - 1 : Nat) : Int) &&& 32)) = some (i32 k) := by
  intro k hk
  unfold jf_J6_numberOfTrailingZeros_0f7a4_34 jf_J6_numberOfTrailingZeros_0f7a4_62
  revert k
  decide +kernel
theorem ntz {ty : xTy} {h : xH} {z k : Nat} (hz : z < 65536) (h1 : z.testBit k = true) (h2 : ∀ j, j < k → z.testBit j = false) : jf_J6_numberOfTrailingZeros_0f7a4 ty h (i32 z) = some (i32 k) := by
  have hk : k < 16 := by
    rcases Nat.lt_or_ge k 16 with h | h
    · exact h
    · have := bit_lt (n := z) (k := 16) hz h
      rw [this] at h1; cases h1
  have e := ntz_m hz h1 h2
  unfold jf_J6_numberOfTrailingZeros_0f7a4
  rw [show ((-1 : Int32)) = i32 (-1) from rfl, show (i32 z - 1) = i32 z - i32 1 from rfl, e]
  exact ntz_c k hk
section OPJ
variable {ty : xTy} {N M : Nat} {hA hB h0 : xH} {mm mi : Nat → Nat} {c : CS} {I : Nat → Int32} {A : Nat → Nat → Int32} {J : Nat → Int64} {g : Sg} {b : Bk}
theorem hasBit_n {n r : Nat} (hn : n < 2147483648) (hr : r < 16) : jf_X11_hasBit (i32 n) (i32 r) = some (bI (inR n r)) := by
  rw [hasBit_i hn (by omega) (by omega), decide_eq_true (show 0 ≤ (r : Int) by omega), decide_eq_true (show (r : Int) < 16 by omega), Int.toNat_natCast]
  rfl
theorem k_fb6 (C : CH ty N) (hg : gwf g) {how z u ru : Nat} (hh : how ≤ 3) (hz : z < 65536) {Q : List Nat} (hQ : tlo (gb g) Q) (hu : u + 3 ≤ 241 ∨ 257 ≤ u) : ∀ (k r : Nat) (c : CS), r + k = bnr (gb g) → CRep c g → isT c u ru (bar (gb g)) Q →
    ∃ n c', jf_X11_fitBits_6 ty n (N + 0) (i32 how) (N + u) (i32 z) (i32 (bitsF (ftP g how z Q) r : Nat)) (i32 r) (cst N h0 c) = some (i32 (bitsF (ftP g how z Q) (bnr (gb g)) : Nat), cst N h0 c') ∧ fr 241 257 c c' := by
  have h16 := hg.1.2.2.1
  intro k
  induction k with
  | zero =>
    intro r c h1 hc iQ
    refine ⟨1, c, ?_, fr.rf⟩
    rw [jf_X11_fitBits_6_s]
    simp (disch := omega) only [k_book C hc.1, xbs, k_bn hc, i32_lit, i32_neg, i32_add, i32_sub, i32_mul, i32_lt, i32_le, i32_eq, if_pos]
    rw [show r = bnr (gb g) by omega]
  | succ k ih =>
    intro r c h1 hc iQ
    have hr : r < bnr (gb g) := by omega
    cases hi : inR z r with
    | false =>
      obtain ⟨n, c', q1, q2⟩ := ih (r + 1) c (by omega) hc iQ
      refine ⟨n + 1, c', ?_, q2⟩
      rw [jf_X11_fitBits_6_s]
      simp (disch := omega) only [k_book C hc.1, xbs, k_bn hc, i32_lit, i32_neg, i32_add, i32_sub, i32_mul, i32_lt, i32_le, i32_eq, if_neg, hasBit_n, bI_eq0, hi, if_true]
      rw [show (r : Int) + 1 = ((r + 1 : Nat) : Int) by omega, ← q1, bitsF_f (n := r) (by simp [ftP, hi])]
    | true =>
      have tr := hc.tm hg hr
      obtain ⟨c1, p1, p2⟩ := k_fit (h0 := h0) C hg.1 hc.1 tr.1 iQ (hg.lo hr) hQ (by omega) hu hh
      obtain ⟨n, c', q1, q2⟩ := ih (r + 1) c1 (by omega) (hc.fr hg p2 (by omega)) (iQ.fr p2 (by omega))
      refine ⟨n + 1, c', ?_, p2.tr q2⟩
      rw [jf_X11_fitBits_6_s]
      simp (disch := omega) only [k_book C hc.1, xbs, k_bn hc, i32_lit, i32_neg, i32_add, i32_sub, i32_mul, i32_lt, i32_le, i32_eq, if_neg, hasBit_n, bI_eq0, hi, Bool.true_eq_false, if_false, k_termOf C hc.1 hc.1.bk, kck C tr.1.1, p1, xb2s]
      rw [show (r : Int) + 1 = ((r + 1 : Nat) : Int) by omega]
      cases hm : fit (bar (gb g)) how (bT (gb g) r) Q with
      | false =>
        rw [bitsF_f (n := r) (by simp [ftP, hm])] at q1
        simp only [if_true]
        exact q1
      | true =>
        rw [bitsF_t (n := r) (by simp [ftP, hm, hi])] at q1
        simp only [Bool.true_eq_false, if_false]
        rw [or_bit _ _ (by omega)]
        exact q1
theorem k_fb (C : CH ty N) (hg : gwf g) {how z u ru : Nat} (hh : how ≤ 3) (hz : z < 65536) {Q : List Nat} (hQ : tlo (gb g) Q) (hu : u + 3 ≤ 241 ∨ 257 ≤ u) (hc : CRep c g) (iQ : isT c u ru (bar (gb g)) Q) :
    ∃ c', jf_X11_fitBits ty (cst N h0 c) (N + 0) (i32 how) (N + u) (i32 z) = some (i32 (bitsF (ftP g how z Q) (bnr (gb g)) : Nat), cst N h0 c') ∧ fr 241 257 c c' := by
  obtain ⟨n, c', q1, q2⟩ := k_fb6 (h0 := h0) C hg hh hz hQ hu (bnr (gb g)) 0 c (by omega) hc iQ
  exact ⟨c', jf_X11_fitBits_6_l q1, q2⟩
end OPJ

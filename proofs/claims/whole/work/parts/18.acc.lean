/-! WHAT BOTH PROGRAMS READ of the state -/
theorem i32_ex (v : Int32) : ∃ z : Int, -2147483648 ≤ z ∧ z < 2147483648 ∧ v = i32 z := ⟨v.toInt, by have := v.le_toInt; omega, by have := v.toInt_lt; omega, (Int32.ofInt_toInt v).symm⟩
def isR (b : Bk) (z : Int) : Bool := decide (0 ≤ z) && decide (z < bnr b)
theorem isR_t {b : Bk} {z : Int} (h : isR b z = true) : 0 ≤ z ∧ z < bnr b := by
  unfold isR at h
  simpa using h
theorem ct_trm {B : Nat} (hB : B = 2 ∨ B = 108) {r : Nat} (hr : r < 16) : ct (B + 10 + 6 * r) = some (0, 7) ∧ ct (B + 13 + 6 * r) = some (0, 7) := by
  rcases hB with rfl | rfl
  · exact (by decide : ∀ r, r < 16 → ct (2 + 10 + 6 * r) = some (0, 7) ∧ ct (2 + 13 + 6 * r) = some (0, 7)) r hr
  · exact (by decide : ∀ r, r < 16 → ct (108 + 10 + 6 * r) = some (0, 7) ∧ ct (108 + 13 + 6 * r) = some (0, 7)) r hr
theorem ct_bk {B : Nat} (hB : B = 2 ∨ B = 108) : ct B = some (0, 0) ∧ ct (B + 1) = some (1, 8) ∧ ct (B + 2) = some (1, 8) ∧ ct (B + 3) = some (1, 4) ∧ ct (B + 4) = some (1, 16) ∧ ct (B + 5) = some (3, 16) ∧ ct (B + 6) = some (3, 16) ∧ ct (B + 7) = some (0, 7) := by
  rcases hB with rfl | rfl <;> decide
theorem LY.bf {c : CS} (h : LY c) {B : Nat} (hB : B = 2 ∨ B = 108) : cR c B 0 = B + 1 ∧ cR c B 1 = B + 2 ∧ cR c B 2 = B + 3 ∧ cR c B 3 = B + 4 ∧ cR c B 4 = B + 5 ∧ cR c B 5 = B + 6 ∧ cR c B 6 = B + 7 := by
  rcases hB with rfl | rfl
  · exact ⟨h.1 (2, 0, 3) (by decide), h.1 (2, 1, 4) (by decide), h.1 (2, 2, 5) (by decide), h.1 (2, 3, 6) (by decide), h.1 (2, 4, 7) (by decide), h.1 (2, 5, 8) (by decide), h.1 (2, 6, 9) (by decide)⟩
  · exact ⟨h.1 (108, 0, 109) (by decide), h.1 (108, 1, 110) (by decide), h.1 (108, 2, 111) (by decide), h.1 (108, 3, 112) (by decide), h.1 (108, 4, 113) (by decide), h.1 (108, 5, 114) (by decide), h.1 (108, 6, 115) (by decide)⟩
theorem LY.bp {c : CS} (h : LY c) {B : Nat} (hB : B = 2 ∨ B = 108) {r : Nat} (hr : r < 16) : cP c (B + 5) r = B + 10 + 6 * r ∧ cP c (B + 6) r = B + 13 + 6 * r := by
  obtain ⟨a1, a2, a3, a4⟩ := h.2.2.1 r hr
  rcases hB with rfl | rfl
  · exact ⟨a1, a2⟩
  · exact ⟨a3, a4⟩
section ACC
variable {ty : xTy} {N : Nat} {h0 : xH} {c : CS} {g : Sg} {B : Nat} {b : Bk}
theorem k_book (C : CH ty N) (h : LY c) : xgo ty (cst N h0 c) (N + 0) 2 0 = some (N + cR c 0 2) := kgo C (by omega) (ct_bk h.bk).1
theorem k_ask (C : CH ty N) (h : LY c) : xgo ty (cst N h0 c) (N + 0) 4 7 = some (N + cR c 0 4) := kgo C (by omega) (by rcases h.as.1 with e | e <;> rw [e] <;> rfl)
theorem k_spare (C : CH ty N) (h : LY c) : xgo ty (cst N h0 c) (N + 0) 5 7 = some (N + cR c 0 5) := kgo C (by omega) (by rcases h.as.2.1 with e | e <;> rw [e] <;> rfl)
theorem k_sub (C : CH ty N) (h : LY c) {q k v ci : Nat} (hl : (q, k, v) ∈ lyL) (hq : q < 273) (ht : ct v = some (0, ci)) : xgo ty (cst N h0 c) (N + q) k ci = some (N + v) := by
  have e := h.1 _ hl
  simp only at e
  rw [kgo C hq (by rw [e]; exact ht), e]
theorem k_hasRule (hb : bwf b) (hB : B = 2 ∨ B = 108) (h : CB c B b) {z : Int} (h1 : -2147483648 ≤ z) (h2 : z < 2147483648) : jf_X0_hasRule ty (cst N h0 c) (N + B) (i32 z) = some (bI (isR b z)) := by
  have := hb.2.2.1
  unfold jf_X0_hasRule isR
  simp (disch := omega) only [i32_lit, i32_neg, i32_add, i32_sub, i32_mul, i32_lt, i32_le, i32_eq, kI (ct_lt (ct_bk hB).1), h.2.2.1]
  by_cases hz : z < 0
  · rw [if_pos hz, decide_eq_false (by omega)]; rfl
  · rw [if_neg hz, decide_eq_true (show 0 ≤ z by omega)]
    by_cases hz2 : (bnr b : Int) ≤ z
    · rw [if_pos hz2, decide_eq_false (by omega)]; rfl
    · rw [if_neg hz2, decide_eq_true (by omega)]; rfl
theorem k_termOf (C : CH ty N) (hl : LY c) (hB : B = 2 ∨ B = 108) {r : Nat} (hr : r < 16) : jf_X0_termOf ty (cst N h0 c) (N + B) (i32 r) = some (N + (B + 10 + 6 * r)) := by
  have e := hl.bp hB hr
  have f := hl.bf hB
  unfold jf_X0_termOf
  simp (disch := omega) only [i32_lit, i32_neg, i32_add, i32_sub, i32_mul, i32_lt, i32_le, i32_eq, if_neg, kR (ct_lt (ct_bk hB).1), f, xbs]
  rw [kgp C (ct_bk hB).2.2.2.2.2.1 (by omega) (by omega) (by omega) (by rw [Int.toNat_natCast, e.1]; exact (ct_trm hB hr).1), Int.toNat_natCast, e.1]
  rfl
theorem k_rightOf (C : CH ty N) (hl : LY c) (hB : B = 2 ∨ B = 108) {r : Nat} (hr : r < 16) : jf_X0_rightOf ty (cst N h0 c) (N + B) (i32 r) = some (N + (B + 13 + 6 * r)) := by
  have e := hl.bp hB hr
  have f := hl.bf hB
  unfold jf_X0_rightOf
  simp (disch := omega) only [i32_lit, i32_neg, i32_add, i32_sub, i32_mul, i32_lt, i32_le, i32_eq, if_neg, kR (ct_lt (ct_bk hB).1), f, xbs]
  rw [kgp C (ct_bk hB).2.2.2.2.2.2.1 (by omega) (by omega) (by omega) (by rw [Int.toNat_natCast, e.2]; exact (ct_trm hB hr).2), Int.toNat_natCast, e.2]
  rfl
theorem bit_bI (n k : Nat) (hn : n < 2147483648) (hk : k < 32) : ((((i32 n >>> (i32 k &&& i32 31)) &&& i32 1) = i32 1) = (inR n k = true)) := by
  have e31 : i32 31 = (31 : Int32) := rfl
  rw [e31, i32_bit hn hk]
  unfold inR
  cases n.testBit k <;> simp
  · decide
theorem hasBit_i {n : Nat} {z : Int} (hn : n < 2147483648) (h1 : -2147483648 ≤ z) (h2 : z < 2147483648) : jf_X11_hasBit (i32 n) (i32 z) = some (bI (decide (0 ≤ z) && decide (z < 16) && inR n z.toNat)) := by
  unfold jf_X11_hasBit
  by_cases hz : z < 0
  · simp (disch := omega) only [i32_lit, i32_neg, i32_add, i32_sub, i32_mul, i32_lt, i32_le, i32_eq, if_pos]
    rw [decide_eq_false (show ¬ 0 ≤ z by omega)]; rfl
  · by_cases hz2 : 16 ≤ z
    · simp (disch := omega) only [i32_lit, i32_neg, i32_add, i32_sub, i32_mul, i32_lt, i32_le, i32_eq, if_pos, if_neg]
      rw [decide_eq_false (show ¬ z < 16 by omega), Bool.and_false]; rfl
    · obtain ⟨k, rfl⟩ : ∃ k : Nat, z = k := ⟨z.toNat, by omega⟩
      simp (disch := omega) only [i32_lit, i32_neg, i32_add, i32_sub, i32_mul, i32_lt, i32_le, i32_eq, if_neg, bit_bI n k hn (by omega)]
      rw [decide_eq_true (show 0 ≤ (k : Int) by omega), decide_eq_true (show (k : Int) < 16 by omega), Int.toNat_natCast]
      cases inR n k <;> rfl
theorem k_isIn (hn : gin g < 65536) (h : CSt c g) {r : Nat} (hr : r < 16) : jf_X6_isIn ty (cst N h0 c) (N + 232) (i32 r) = some (bI (inR (gin g) r)) := by
  unfold jf_X6_isIn
  rw [kI (by omega), h.1, hasBit_i (by omega) (by omega) (by omega), decide_eq_true (show 0 ≤ (r : Int) by omega), decide_eq_true (show (r : Int) < 16 by omega), Int.toNat_natCast]
  simp only [xbs, Bool.true_and, xz_b]
theorem gwf.in16 (h : gwf g) : gin g < 65536 := Nat.lt_of_lt_of_le h.2.2.1 (pow16 h.1.2.2.1)
end ACC
section ACCR
variable {ty : xTy} {M : Nat} {mm mi : Nat → Nat} {h0 : xH} {I : Nat → Int32} {A : Nat → Nat → Int32} {J : Nat → Int64} {g : Sg} {b : Bk}
theorem r_isRule (hb : bwf b) (h : I 14 = i32 (bnr b)) {z : Int} (h1 : -2147483648 ≤ z) (h2 : z < 2147483648) : jf_X12_isRule ty (rst mm mi h0 M I A J) M (i32 z) = some (bI (isR b z)) := by
  have := hb.2.2.1
  unfold jf_X12_isRule isR
  simp (disch := omega) only [i32_lit, i32_neg, i32_add, i32_sub, i32_mul, i32_lt, i32_le, i32_eq, rI, h]
  by_cases hz : z < 0
  · rw [if_pos hz, decide_eq_false (by omega)]; rfl
  · rw [if_neg hz, decide_eq_true (show 0 ≤ z by omega)]
    by_cases hz2 : (bnr b : Int) ≤ z
    · rw [if_pos hz2, decide_eq_false (by omega)]; rfl
    · rw [if_neg hz2, decide_eq_true (by omega)]; rfl
theorem isOf_i {n k : Nat} (hn : n < 2147483648) (hk : k < 32) : jf_X12_isOf (i32 n) (i32 k) = some (bI (inR n k)) := by
  unfold jf_X12_isOf
  simp only [i32_lit, bit_bI n k hn hk]
  cases inR n k <;> rfl
theorem r_isInNow {z : Nat} (hn : z < 65536) (h : I 26 = i32 z) {r : Nat} (hr : r < 32) : jf_X12_isInNow ty (rst mm mi h0 M I A J) M (i32 r) = some (bI (inR z r)) := by
  unfold jf_X12_isInNow
  rw [rI, h, isOf_i (by omega) hr]
  simp only [xbs, xz_b]
theorem isIn_i {a lo hi : Int} (h1 : -2147483648 ≤ a) (h2 : a < 2147483648) (h3 : -2147483648 ≤ lo) (h4 : lo < 2147483648) (h5 : -2147483648 ≤ hi) (h6 : hi < 2147483648) : jf_X12_isIn (i32 a) (i32 lo) (i32 hi) = some (bI (decide (lo ≤ a) && decide (a ≤ hi))) := by
  unfold jf_X12_isIn
  simp (disch := omega) only [i32_lit, i32_neg, i32_add, i32_sub, i32_mul, i32_lt, i32_le, i32_eq]
  by_cases hz : a < lo
  · rw [if_pos hz, decide_eq_false (by omega)]; rfl
  · rw [if_neg hz, decide_eq_true (show lo ≤ a by omega)]
    by_cases hz2 : hi < a
    · rw [if_pos hz2, decide_eq_false (by omega)]; rfl
    · rw [if_neg hz2, decide_eq_true (by omega)]; rfl
/-- arities of a term's codes in the reference's row -/
theorem RB.arR (hb : bwf b) (h : RB I A b) {L : List Nat} (hL : ∀ d ∈ L, d < bns b ∨ (100 ≤ d ∧ d < 148)) : arR A (bar b) L := by
  intro d hd
  have h8 := hb.1
  refine ⟨fun h1 => ?_, fun h1 => bar_z b d h1, ?_, bar_le hb d⟩
  · rcases hL d hd with h2 | h2
    · refine ⟨by omega, ?_⟩
      rw [(h.2.2.2.1 d h2).2]
      unfold bar
      rw [if_pos h1]
    · omega
  · rcases hL d hd with h2 | h2 <;> omega
theorem twf.cod {b : Bk} (hb : bwf b) {L : List Nat} (hL : twf b L) : ∀ d ∈ L, d < bns b ∨ (100 ≤ d ∧ d < 148) := fun d hd => by
  have := hb.2.1
  rcases hL.2.2 d hd with h | h
  · exact Or.inl h
  · exact Or.inr ⟨h.1, by omega⟩
end ACCR

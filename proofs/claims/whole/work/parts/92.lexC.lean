/-! TOKENS: the class -/
section LEXC
variable {ty : xTy} {N M : Nat} {hA hB h0 : xH} {mm mi : Nat → Nat} {c : CS} {I : Nat → Int32} {A : Nat → Nat → Int32} {J : Nat → Int64} {g : Sg} {b : Bk} {F : Nat → Nat} {n : Nat}
/-- the tape's first n bytes -/
def TPc (c : CS) (F : Nat → Nat) (n : Nat) : Prop := n ≤ 700 ∧ ∀ k, k < n → F k < 256 ∧ cA c 1 k = i32 (F k : Nat)
theorem TPc.fr {c' : CS} {lo hi : Nat} (h : TPc c F n) (f : fr lo hi c c') (hd : 2 ≤ lo) : TPc c' F n := ⟨h.1, fun k hk => by rw [(f.1 1 (by omega)).2]; exact h.2 k hk⟩
theorem k_tpa (C : CH ty N) (h : TPc c F n) {q : Nat} (hq : q < n) : xga 1 ty (cst N h0 c) (N + 1) (i32 (q : Nat)) = some (i32 (F q : Nat)) := by
  have := h.1
  rw [kga C (show ct 1 = some (1, 700) by decide) (by omega) (by omega) (by omega), Int.toNat_natCast, (h.2 q hq).2]
theorem isL_i {x : Nat} (h : x < 256) : jf_X8_isLetter (i32 (x : Nat)) = some (bI (isLb x)) := by
  unfold jf_X8_isLetter isLb
  simp (disch := omega) only [i32_lit, i32_neg, i32_add, i32_sub, i32_mul, i32_lt, i32_le, i32_eq]
  by_cases w1 : (x : Int) < 97
  · rw [if_pos w1, decide_eq_false (by omega)]; rfl
  · rw [if_neg w1, decide_eq_true (show 97 ≤ x by omega)]
    by_cases w2 : (122 : Int) < (x : Int)
    · rw [if_pos w2, decide_eq_false (by omega)]; rfl
    · rw [if_neg w2, decide_eq_true (by omega)]; rfl
theorem isD_i {x : Nat} (h : x < 256) : jf_X8_isDigit (i32 (x : Nat)) = some (bI (isDb x)) := by
  unfold jf_X8_isDigit isDb
  simp (disch := omega) only [i32_lit, i32_neg, i32_add, i32_sub, i32_mul, i32_lt, i32_le, i32_eq]
  by_cases w1 : (x : Int) < 48
  · rw [if_pos w1, decide_eq_false (by omega)]; rfl
  · rw [if_neg w1, decide_eq_true (show 48 ≤ x by omega)]
    by_cases w2 : (57 : Int) < (x : Int)
    · rw [if_pos w2, decide_eq_false (by omega)]; rfl
    · rw [if_neg w2, decide_eq_true (by omega)]; rfl
theorem isB_i {x : Nat} (h : x < 256) : jf_X8_isBlank (i32 (x : Nat)) = some (bI (isBb x)) := by
  unfold jf_X8_isBlank isBb
  simp (disch := omega) only [i32_lit, i32_neg, i32_add, i32_sub, i32_mul, i32_lt, i32_le, i32_eq]
  by_cases w1 : (x : Int) = 10
  · rw [if_pos w1, decide_eq_true (by omega)]; rfl
  · rw [if_neg w1, decide_eq_false (by omega), Bool.false_or]
    by_cases w2 : (x : Int) = 32
    · rw [if_pos w2, decide_eq_true (by omega)]; rfl
    · rw [if_neg w2, decide_eq_false (by omega)]; rfl
theorem mk_i {x : Nat} (h : x < 256) {h1 : xH} : jf_X8_markKind ty h1 (i32 (x : Nat)) = some (i32 (mkK x : Nat)) := by
  have n10 : ¬ ((1 : Int32) = 0) := by decide
  unfold jf_X8_markKind jf_X8_markKind_30 mkK
  simp only [eq_false n10, if_false, if_true]
  simp (disch := omega) only [i32_lit, i32_neg, i32_add, i32_sub, i32_mul, i32_lt, i32_le, i32_eq]
  by_cases w1 : (x : Int) = 59
  · rw [if_pos w1, if_pos (by omega)]
  · rw [if_neg w1]
    by_cases w2 : (x : Int) = 61
    · rw [if_pos w2, if_pos (by omega)]
    · rw [if_neg w2]
      by_cases w3 : (x : Int) = 44
      · rw [if_pos w3, if_pos (by omega)]
      · rw [if_neg w3]
        by_cases w4 : (x : Int) = 40
        · rw [if_pos w4, if_pos (by omega)]
        · rw [if_neg w4]
          by_cases w5 : (x : Int) = 41
          · rw [if_pos w5, if_pos (by omega)]
          · rw [if_neg w5, if_neg (by omega)]
            rfl
/-- one token more -/
def APP (c c' : CS) (m : Nat) (t : Tk) : Prop := fr 227 231 c c' ∧ cI c' 227 3 = i32 ((m + 1 : Nat) : Int) ∧ (cA c' 228 m = i32 (t.1 : Nat) ∧ cA c' 229 m = i32 (t.2.1 : Nat) ∧ cA c' 230 m = i32 (t.2.2.1 : Nat)) ∧ ∀ j, j < m → cA c' 228 j = cA c 228 j ∧ cA c' 229 j = cA c 229 j ∧ cA c' 230 j = cA c 230 j
theorem LY.tk3 (h : LY c) : cR c 227 0 = 228 ∧ cR c 227 1 = 229 ∧ cR c 227 2 = 230 := ⟨h.1 _ (show (227, 0, 228) ∈ lyL by decide), h.1 _ (show (227, 1, 229) ∈ lyL by decide), h.1 _ (show (227, 2, 230) ∈ lyL by decide)⟩
theorem k_app (C : CH ty N) (hL : LY c) {m : Nat} (hm : m ≤ 700) (h3 : cI c 227 3 = i32 (m : Nat)) (t : Tk) : ∃ c', jf_X8_append ty (cst N h0 c) (N + 227) (i32 (t.1 : Nat)) (i32 (t.2.1 : Nat)) (i32 (t.2.2.1 : Nat)) = some (cst N h0 c') ∧ APP c c' m t := by
  obtain ⟨c1, hc1⟩ : ∃ c1, c1 = csA c 228 m (i32 (t.1 : Nat)) := ⟨_, rfl⟩
  obtain ⟨c2, hc2⟩ : ∃ c2, c2 = csA c1 229 m (i32 (t.2.1 : Nat)) := ⟨_, rfl⟩
  obtain ⟨c3, hc3⟩ : ∃ c3, c3 = csA c2 230 m (i32 (t.2.2.1 : Nat)) := ⟨_, rfl⟩
  obtain ⟨c4, hc4⟩ : ∃ c4, c4 = csI c3 227 3 (i32 ((m + 1 : Nat) : Int)) := ⟨_, rfl⟩
  have f1 : fr 227 231 c c1 := by rw [hc1]; exact fr.A (by omega) (by omega)
  have f2 : fr 227 231 c1 c2 := by rw [hc2]; exact fr.A (by omega) (by omega)
  have f3 : fr 227 231 c2 c3 := by rw [hc3]; exact fr.A (by omega) (by omega)
  have f4 : fr 227 231 c3 c4 := by rw [hc4]; exact fr.I (by omega) (by omega)
  have hL1 := hL.same f1.2.1 f1.2.2
  have hL2 := hL1.same f2.2.1 f2.2.2
  have i1 : cI c1 227 3 = i32 (m : Nat) := by rw [hc1]; exact h3
  have i2 : cI c2 227 3 = i32 (m : Nat) := by rw [hc2]; exact i1
  have i3 : cI c3 227 3 = i32 (m : Nat) := by rw [hc3]; exact i2
  refine ⟨c4, ?_, ((f1.tr f2).tr f3).tr f4, by rw [hc4, sI_s], ⟨?_, ?_, ?_⟩, fun j hj => ⟨?_, ?_, ?_⟩⟩
  · unfold jf_X8_append
    simp (disch := omega) only [kI, h3, i32_lit, i32_neg, i32_add, i32_sub, i32_mul, i32_lt, i32_le, i32_eq, if_neg, kR, hL.tk3.1, xbs, kwa C (show ct 228 = some (1, 701) by decide), Int.toNat_natCast]
    rw [← hc1]
    simp (disch := omega) only [kI, i1, kR, hL1.tk3.2.1, xbs, kwa C (show ct 229 = some (1, 701) by decide), Int.toNat_natCast]
    rw [← hc2]
    simp (disch := omega) only [kI, i2, kR, hL2.tk3.2.2, xbs, kwa C (show ct 230 = some (1, 701) by decide), Int.toNat_natCast]
    rw [← hc3]
    simp (disch := omega) only [kI, i3, ksI, i32_lit, i32_neg, i32_add, i32_sub, i32_mul, i32_lt, i32_le, i32_eq]
    rw [show (m : Int) + 1 = ((m + 1 : Nat) : Int) by omega, ← hc4]
  · rw [hc4, cA_I, hc3, sA_o (by decide), hc2, sA_o (by decide), hc1, sA_s]
  · rw [hc4, cA_I, hc3, sA_o (by decide), hc2, sA_s]
  · rw [hc4, cA_I, hc3, sA_s]
  · rw [hc4, cA_I, hc3, sA_o (by decide), hc2, sA_o (by decide), hc1, sA_n (by omega)]
  · rw [hc4, cA_I, hc3, sA_o (by decide), hc2, sA_n (by omega), hc1, sA_o (by decide)]
  · rw [hc4, cA_I, hc3, sA_n (by omega), hc2, sA_o (by decide), hc1, sA_o (by decide)]
theorem hrn_pad {q e i : Nat} (h : e ≤ q + i) : ∀ d, hrn F q e (i + d) = hrn F q e i * 32 ^ d
  | 0 => by simp
  | d + 1 => by
    rw [← Nat.add_assoc]
    simp only [hrn]
    rw [hrn_pad h d, if_neg (by omega), Nat.pow_succ, Nat.add_zero, Nat.mul_assoc]
def wvl (F : Nat → Nat) (q e i : Nat) : Nat := if i ≤ 6 then hrn F q e i * 32 ^ (6 - i) else hrn F q e 6
theorem wvl_end {q e i : Nat} (h : e = q + i) : wvl F q e i = hrn F q e 6 := by
  unfold wvl
  split
  · have := hrn_pad (F := F) (q := q) (e := e) (i := i) (by omega) (6 - i)
    rw [show i + (6 - i) = 6 by omega] at this
    exact this.symm
  · rfl
theorem wvl_step {q e i x : Nat} (hi : i < 6) (he : q + i < e) (hx : F (q + i) = x) (h1 : 97 ≤ x) (h2 : x ≤ 122) : wvl F q e i ||| ((x - 96) <<< (5 * (5 - i))) = wvl F q e (i + 1) := by
  unfold wvl
  rw [if_pos (by omega), if_pos (by omega)]
  simp only [hrn]
  rw [if_pos he, hx, Nat.shiftLeft_eq]
  have e1 : (32 : Nat) ^ (6 - i) = 2 ^ (5 * (6 - i)) := by rw [Nat.pow_mul]
  have e2 : (2 : Nat) ^ (5 * (6 - i)) = 32 * 2 ^ (5 * (5 - i)) := by
    rw [show 5 * (6 - i) = 5 + 5 * (5 - i) by omega, Nat.pow_add]
  have e3 : (32 : Nat) ^ (6 - (i + 1)) = 2 ^ (5 * (5 - i)) := by rw [show 6 - (i + 1) = 5 - i by omega, Nat.pow_mul]
  have hlt : (x - 96) * 2 ^ (5 * (5 - i)) < 2 ^ (5 * (6 - i)) := by
    rw [e2]
    exact Nat.mul_lt_mul_of_pos_right (by omega) (Nat.two_pow_pos _)
  rw [e1, or_low hlt, e3, e2, Nat.add_mul, Nat.mul_assoc]
theorem k_tw6 (C : CH ty N) (hT : TPc c F n) {q e : Nat} (hq : q < n) : ∀ (k i : Nat), q + i + k = n → run isLb F k (q + i) = e →
    jf_X8_takeWord_6 ty (k + 1) (N + 227) (N + 1) (i32 (q : Nat)) (i32 (n : Nat)) (i32 (wvl F q e i : Nat)) (i32 ((q + i : Nat) : Int)) (cst N h0 c) = jf_X8_takeWord_66 ty (N + 227) (i32 (q : Nat)) (i32 (hrn F q e 6 : Nat)) (i32 (e : Nat)) (cst N h0 c) := by
  have h700 := hT.1
  intro k
  induction k with
  | zero =>
    intro i h1 h2
    simp only [run] at h2
    rw [jf_X8_takeWord_6_s, wvl_end h2.symm]
    simp (disch := omega) only [i32_lit, i32_neg, i32_add, i32_sub, i32_mul, i32_lt, i32_le, i32_eq, if_pos]
    rw [h2]
  | succ k ih =>
    intro i h1 h2
    have hF := (hT.2 (q + i) (by omega)).1
    rw [jf_X8_takeWord_6_s]
    simp (disch := omega) only [i32_lit, i32_neg, i32_add, i32_sub, i32_mul, i32_lt, i32_le, i32_eq, if_neg, k_tpa C hT (show q + i < n by omega), xbs, isL_i hF, bI_eq0]
    rw [show ((q + i : Nat) : Int) + 1 = ((q + (i + 1) : Nat) : Int) by omega, show ((q + i : Nat) : Int) - (q : Int) = (i : Int) by omega]
    simp only [run] at h2
    cases hl : isLb (F (q + i)) with
    | false =>
      rw [hl] at h2
      simp only [Bool.false_eq_true, if_false] at h2
      simp only [if_true]
      rw [wvl_end h2.symm, h2]
    | true =>
      rw [hl] at h2
      simp only [if_true] at h2
      simp only [Bool.true_eq_false, if_false]
      have he : q + i < e := by have := (run_le isLb F k (q + i + 1)).1; omega
      have hl2 := hl
      unfold isLb at hl2
      rw [Bool.and_eq_true_iff, decide_eq_true_iff, decide_eq_true_iff] at hl2
      have ih' := ih (i + 1) (by omega) (by rw [← Nat.add_assoc]; exact h2)
      by_cases w : (6 : Int) ≤ (i : Int)
      · simp only [eq_true w, if_true]
        rw [← ih']
        have : wvl F q e (i + 1) = wvl F q e i := by
          unfold wvl
          rw [if_neg (by omega)]
          by_cases h6 : i ≤ 6
          · rw [if_pos h6, show i = 6 by omega]; simp
          · rw [if_neg h6]
        rw [this]
      · simp only [eq_false w, if_false]
        rw [← ih', show ((F (q + i) : Nat) : Int) - 97 + 1 = ((F (q + i) - 96 : Nat) : Int) by omega, show (5 : Int) * (5 - (i : Int)) = ((5 * (5 - i) : Nat) : Int) by omega, i32_shl _ (by omega), i32_or, wvl_step (by omega) he rfl hl2.1 hl2.2]
theorem hrn6_lt (hT : TPc c F n) {q : Nat} (hq : q ≤ n) : hrn F q (run isLb F (n - q) q) 6 < 1073741824 := by
  have := hrn_lt F q (run isLb F (n - q) q) (fun i hi => by
    have := run_all (P := isLb) (F := F) (n - q) q (q + i) (by omega) hi
    unfold isLb at this
    rw [Bool.and_eq_true_iff, decide_eq_true_iff, decide_eq_true_iff] at this
    exact this.2) 6
  exact this
theorem wk_i {v : Nat} (h : v < 1073741824) : jf_X8_wordKind (i32 (v : Nat)) = some (i32 (wdK v : Nat)) := by
  unfold jf_X8_wordKind wdK
  simp (disch := omega) only [i32_lit, i32_neg, i32_add, i32_sub, i32_mul, i32_lt, i32_le, i32_eq]
  by_cases w1 : v = 626398208
  · have w1' : (v : Int) = 626398208 := by omega
    simp only [eq_true w1, eq_true w1', if_true]; rfl
  · have w1' : ¬ (v : Int) = 626398208 := by omega
    simp only [eq_false w1, eq_false w1', if_false]
    by_cases w2 : v = 647215104
    · have w2' : (v : Int) = 647215104 := by omega
      simp only [eq_true w2, eq_true w2', if_true]; rfl
    · have w2' : ¬ (v : Int) = 647215104 := by omega
      simp only [eq_false w2, eq_false w2', if_false]
      by_cases w3 : v = 739835904
      · have w3' : (v : Int) = 739835904 := by omega
        simp only [eq_true w3, eq_true w3', if_true]; rfl
      · have w3' : ¬ (v : Int) = 739835904 := by omega
        simp only [eq_false w3, eq_false w3', if_false]; rfl
theorem k_tn6 (C : CH ty N) (hL : LY c) (hT : TPc c F n) {q m : Nat} (hq : q < n) (hm : m ≤ 700) (h3 : cI c 227 3 = i32 (m : Nat)) : ∀ (k a v : Nat), a + k = n → v ≤ 1000 →
    ∃ c', jf_X8_takeNumber_6 ty (k + 1) (N + 227) (N + 1) (i32 (q : Nat)) (i32 (n : Nat)) (i32 (v : Nat)) (i32 (a : Nat)) (cst N h0 c) = some (i32 (run isDb F k a : Nat), cst N h0 c') ∧ APP c c' m (6, q, nmV F k a v, 0) := by
  have h700 := hT.1
  intro k
  induction k with
  | zero =>
    intro a v h1 hv
    obtain ⟨c', q1, q2⟩ := k_app (h0 := h0) C hL hm h3 (6, q, v, 0)
    refine ⟨c', ?_, q2⟩
    rw [jf_X8_takeNumber_6_s]
    simp (disch := omega) only [i32_le, if_pos]
    rw [show (6 : Int32) = i32 ((6 : Nat) : Int) from rfl, q1]
    rfl
  | succ k ih =>
    intro a v h1 hv
    have hF := (hT.2 a (by omega)).1
    cases hl : isDb (F a) with
    | false =>
      obtain ⟨c', q1, q2⟩ := k_app (h0 := h0) C hL hm h3 (6, q, v, 0)
      refine ⟨c', ?_, by simp only [nmV, hl]; exact q2⟩
      rw [jf_X8_takeNumber_6_s]
      simp (disch := omega) only [i32_lit, i32_le, if_neg, k_tpa C hT (show a < n by omega), xbs, isD_i hF, bI_eq0, hl, if_true]
      rw [show i32 6 = i32 ((6 : Nat) : Int) from rfl, q1]
      simp only [run, hl]
      rfl
    | true =>
      have hl2 := hl
      unfold isDb at hl2
      rw [Bool.and_eq_true_iff, decide_eq_true_iff, decide_eq_true_iff] at hl2
      obtain ⟨c', q1, q2⟩ := ih (a + 1) (min 1000 (v * 10 + (F a - 48))) (by omega) (by omega)
      refine ⟨c', ?_, by simp only [nmV, hl, if_true]; exact q2⟩
      simp only [run, hl, if_true]
      rw [jf_X8_takeNumber_6_s, ← q1]
      simp (disch := omega) only [i32_lit, i32_neg, i32_add, i32_sub, i32_mul, i32_lt, i32_le, i32_eq, if_neg, k_tpa C hT (show a < n by omega), xbs, isD_i hF, bI_eq0, hl, Bool.true_eq_false, if_false, xmin_i]
      rw [show min (1000 : Int) ((v : Int) * 10 + ((F a : Nat) : Int) - 48) = ((min 1000 (v * 10 + (F a - 48)) : Nat) : Int) by omega, show (a : Int) + 1 = ((a + 1 : Nat) : Int) by omega]
theorem k_tt (C : CH ty N) (hL : LY c) (hT : TPc c F n) {q m : Nat} (hq : q < n) (hm : m ≤ 700) (h3 : cI c 227 3 = i32 (m : Nat)) (hB : isBb (F q) = false) :
    ∃ c', jf_X8_takeToken ty (cst N h0 c) (N + 227) (N + 1) (i32 (q : Nat)) (i32 (n : Nat)) = some (i32 ((tkA F n q).2.2.2 : Nat), cst N h0 c') ∧ APP c c' m (tkA F n q) := by
  have h700 := hT.1
  have hF := (hT.2 q hq).1
  unfold jf_X8_takeToken
  simp (disch := omega) only [k_tpa C hT hq, xbs, isL_i hF, isD_i hF, isB_i hF, i32_lit, bI_eq0, hB, if_true]
  cases hl : isLb (F q) with
  | true =>
    have hrl := run_le isLb F (n - q) q
    have hv := hrn6_lt hT (show q ≤ n by omega)
    simp only [Bool.true_eq_false, if_false]
    have htk : tkA F n q = (if 6 < run isLb F (n - q) q - q then 1 else wdK (hrn F q (run isLb F (n - q) q) 6), q, hrn F q (run isLb F (n - q) q) 6, run isLb F (n - q) q) := by unfold tkA; rw [hl]; rfl
    rw [htk]
    have h6 := k_tw6 (h0 := h0) (e := run isLb F (n - q) q) C hT hq (n - q) 0 (by omega) rfl
    have hw0 : wvl F q (run isLb F (n - q) q) 0 = 0 := by unfold wvl; rw [if_pos (by omega)]; simp [hrn]
    rw [hw0] at h6
    obtain ⟨c', q1, q2⟩ := k_app (h0 := h0) C hL hm h3 (if 6 < run isLb F (n - q) q - q then 1 else wdK (hrn F q (run isLb F (n - q) q) 6), q, hrn F q (run isLb F (n - q) q) 6, run isLb F (n - q) q)
    refine ⟨c', ?_, q2⟩
    have h66 : jf_X8_takeWord_66 ty (N + 227) (i32 (q : Nat)) (i32 (hrn F q (run isLb F (n - q) q) 6 : Nat)) (i32 (run isLb F (n - q) q : Nat)) (cst N h0 c) = some (i32 (run isLb F (n - q) q : Nat), cst N h0 c') := by
      unfold jf_X8_takeWord_66
      simp (disch := omega) only [i32_lit, i32_neg, i32_add, i32_sub, i32_mul, i32_lt, i32_le, i32_eq, wk_i hv, xbs]
      by_cases w : ((run isLb F (n - q) q : Nat) : Int) - (q : Int) ≤ 6
      · rw [if_pos w]
        rw [if_neg (show ¬ 6 < run isLb F (n - q) q - q by omega)] at q1
        rw [q1]; rfl
      · rw [if_neg w]
        rw [if_pos (show 6 < run isLb F (n - q) q - q by omega)] at q1
        rw [show i32 1 = i32 ((1 : Nat) : Int) from rfl, q1]; rfl
    have : jf_X8_takeWord ty (cst N h0 c) (N + 227) (N + 1) (i32 (q : Nat)) (i32 (n : Nat)) = some (i32 (run isLb F (n - q) q : Nat), cst N h0 c') := jf_X8_takeWord_6_l (h6.trans h66)
    rw [this]; rfl
  | false =>
    simp only [if_true]
    cases hd : isDb (F q) with
    | true =>
      simp only [Bool.true_eq_false, if_false]
      have htk : tkA F n q = (6, q, nmV F (n - q) q 0, run isDb F (n - q) q) := by unfold tkA; rw [hl, hd]; rfl
      obtain ⟨c', q1, q2⟩ := k_tn6 (h0 := h0) C hL hT hq hm h3 (n - q) q 0 (by omega) (by omega)
      have : jf_X8_takeNumber ty (cst N h0 c) (N + 227) (N + 1) (i32 (q : Nat)) (i32 (n : Nat)) = some (i32 (run isDb F (n - q) q : Nat), cst N h0 c') := jf_X8_takeNumber_6_l q1
      refine ⟨c', ?_, by rw [htk]; exact q2⟩
      rw [this, htk]; rfl
    | false =>
      simp only [if_true, mk_i hF, xbs]
      have htk : tkA F n q = (mkK (F q), q, 0, q + 1) := by unfold tkA; rw [hl, hd]; rfl
      obtain ⟨c', q1, q2⟩ := k_app (h0 := h0) C hL hm h3 (mkK (F q), q, 0, q + 1)
      refine ⟨c', ?_, by rw [htk]; exact q2⟩
      rw [show i32 0 = i32 ((0 : Nat) : Int) from rfl, q1, htk, xbs, i32_add]
      rfl
/-- the tokens made so far -/
def TKS (c : CS) (F : Nat → Nat) (n m : Nat) : Prop := cI c 227 3 = i32 (m : Nat) ∧ ∀ j, j < m → cA c 228 j = i32 ((tk F n j).1 : Nat) ∧ cA c 229 j = i32 ((tk F n j).2.1 : Nat) ∧ cA c 230 j = i32 ((tk F n j).2.2.1 : Nat)
theorem APP.tks {c' : CS} {m : Nat} (h : APP c c' m (tk F n m)) (hs : TKS c F n m) : TKS c' F n (m + 1) := by
  obtain ⟨-, h2, h3, h4⟩ := h
  refine ⟨h2, fun j hj => ?_⟩
  rcases Nat.lt_or_ge j m with h | h
  · obtain ⟨a1, a2, a3⟩ := h4 j h
    rw [a1, a2, a3]; exact hs.2 j h
  · rw [show j = m by omega]; exact h3
/-- what is looked at: the j-th token -/
def CT (c : CS) (F : Nat → Nat) (n z j : Nat) : Prop := TKS c F n z ∧ z ≤ 701 ∧ 1 ≤ z ∧ (tk F n (z - 1)).1 = 0 ∧ (∀ i, i + 1 < z → (tk F n i).1 ≠ 0) ∧ cI c 227 4 = i32 ((min (j + 1) z : Nat) : Int) ∧ cI c 227 5 = i32 ((tk F n j).1 : Nat) ∧ cI c 227 6 = i32 ((tk F n j).2.1 : Nat) ∧ cI c 227 7 = i32 ((tk F n j).2.2.1 : Nat)
theorem k_adv0 (C : CH ty N) (hL : LY c) {z j : Nat} (hz : z ≤ 701) (hj : j < z) (hs : TKS c F n z) (h4 : cI c 227 4 = i32 (j : Nat)) : ∃ c', jf_X8_advance ty (cst N h0 c) (N + 227) = some (cst N h0 c') ∧ fr 227 228 c c' ∧ TKS c' F n z ∧ cI c' 227 4 = i32 ((j + 1 : Nat) : Int) ∧ cI c' 227 5 = i32 ((tk F n j).1 : Nat) ∧ cI c' 227 6 = i32 ((tk F n j).2.1 : Nat) ∧ cI c' 227 7 = i32 ((tk F n j).2.2.1 : Nat) := by
  obtain ⟨a1, a2, a3⟩ := hs.2 j hj
  obtain ⟨c1, hc1⟩ : ∃ c1, c1 = csI c 227 5 (i32 ((tk F n j).1 : Nat)) := ⟨_, rfl⟩
  obtain ⟨c2, hc2⟩ : ∃ c2, c2 = csI c1 227 6 (i32 ((tk F n j).2.1 : Nat)) := ⟨_, rfl⟩
  obtain ⟨c3, hc3⟩ : ∃ c3, c3 = csI c2 227 7 (i32 ((tk F n j).2.2.1 : Nat)) := ⟨_, rfl⟩
  obtain ⟨c4, hc4⟩ : ∃ c4, c4 = csI c3 227 4 (i32 ((j + 1 : Nat) : Int)) := ⟨_, rfl⟩
  have f1 : fr 227 228 c c1 := by rw [hc1]; exact fr.I (by omega) (by omega)
  have f2 : fr 227 228 c1 c2 := by rw [hc2]; exact fr.I (by omega) (by omega)
  have f3 : fr 227 228 c2 c3 := by rw [hc3]; exact fr.I (by omega) (by omega)
  have f4 : fr 227 228 c3 c4 := by rw [hc4]; exact fr.I (by omega) (by omega)
  have f := ((f1.tr f2).tr f3).tr f4
  have hL1 := hL.same f1.2.1 f1.2.2
  have hL2 := hL1.same f2.2.1 f2.2.2
  have i14 : cI c1 227 4 = i32 (j : Nat) := by rw [hc1, sI_o (by omega)]; exact h4
  have i24 : cI c2 227 4 = i32 (j : Nat) := by rw [hc2, sI_o (by omega)]; exact i14
  have i34 : cI c3 227 4 = i32 (j : Nat) := by rw [hc3, sI_o (by omega)]; exact i24
  have b2 : cA c1 229 j = i32 ((tk F n j).2.1 : Nat) := by rw [hc1]; exact a2
  have b3 : cA c2 230 j = i32 ((tk F n j).2.2.1 : Nat) := by rw [hc2, hc1]; exact a3
  refine ⟨c4, ?_, f, ⟨?_, fun i hi => ?_⟩, by rw [hc4, sI_s], ?_, ?_, ?_⟩
  · unfold jf_X8_advance
    simp (disch := omega) only [kI, h4, hs.1, i32_lit, i32_neg, i32_add, i32_sub, i32_mul, i32_lt, i32_le, i32_eq, if_neg, kR, hL.tk3.1, xbs, kga C (show ct 228 = some (1, 701) by decide), Int.toNat_natCast, a1, ksI]
    rw [← hc1]
    simp (disch := omega) only [kI, i14, kR, hL1.tk3.2.1, xbs, kga C (show ct 229 = some (1, 701) by decide), Int.toNat_natCast, b2, ksI]
    rw [← hc2]
    simp (disch := omega) only [kI, i24, kR, hL2.tk3.2.2, xbs, kga C (show ct 230 = some (1, 701) by decide), Int.toNat_natCast, b3, ksI]
    rw [← hc3]
    simp (disch := omega) only [kI, i34, ksI, i32_lit, i32_neg, i32_add, i32_sub, i32_mul, i32_lt, i32_le, i32_eq]
    rw [show (j : Int) + 1 = ((j + 1 : Nat) : Int) by omega, ← hc4]
  · rw [hc4, sI_o (by omega), hc3, sI_o (by omega), hc2, sI_o (by omega), hc1, sI_o (by omega)]; exact hs.1
  · rw [(f.1 228 (by omega)).2, (f.1 229 (by omega)).2, (f.1 230 (by omega)).2]; exact hs.2 i hi
  · rw [hc4, sI_o (by omega), hc3, sI_o (by omega), hc2, sI_o (by omega), hc1, sI_s]
  · rw [hc4, sI_o (by omega), hc3, sI_o (by omega), hc2, sI_s]
  · rw [hc4, sI_o (by omega), hc3, sI_s]
theorem k_adv (C : CH ty N) (hL : LY c) {z j : Nat} (h : CT c F n z j) : ∃ c', jf_X8_advance ty (cst N h0 c) (N + 227) = some (cst N h0 c') ∧ fr 227 228 c c' ∧ CT c' F n z (j + 1) := by
  obtain ⟨h1, h2, h3, h4, h5, h6, h7, h8, h9⟩ := h
  rcases Nat.lt_or_ge (j + 1) z with hj | hj
  · rw [Nat.min_eq_left (by omega)] at h6
    obtain ⟨c', q1, q2, q3, q4, q5, q6, q7⟩ := k_adv0 (h0 := h0) C hL h2 hj h1 h6
    exact ⟨c', q1, q2, q3, h2, h3, h4, h5, by rw [q4, Nat.min_eq_left (by omega)], q5, q6, q7⟩
  · rw [Nat.min_eq_right (by omega)] at h6
    have e1 := tk_ends h4 (j - (z - 1))
    have e2 := tk_ends h4 (j + 1 - (z - 1))
    rw [show z - 1 + (j - (z - 1)) = j by omega] at e1
    rw [show z - 1 + (j + 1 - (z - 1)) = j + 1 by omega] at e2
    refine ⟨c, ?_, fr.rf, h1, h2, h3, h4, h5, by rw [h6, Nat.min_eq_right (by omega)], by rw [e2, h7, e1], by rw [e2, h8, e1], by rw [e2, h9, e1]⟩
    unfold jf_X8_advance
    simp (disch := omega) only [kI, h6, h1.1, i32_lit, i32_neg, i32_add, i32_sub, i32_mul, i32_lt, i32_le, i32_eq, if_neg, if_pos]
theorem k_so24 (C : CH ty N) : ∀ (k p : Nat) (c : CS) (bh m : Nat), p + k = n → p ≤ bh → bh ≤ n → m ≤ bh → LY c → TPc c F n → TKS c F n m → tk F n m = lx F n (n - bh) bh → (∀ i, i < m → (tk F n i).1 ≠ 0) →
    ∃ c' z, jf_X8_startOn_24 ty (k + 1) (N + 227) (N + 1) (i32 (n : Nat)) (i32 (bh : Nat)) (i32 (p : Nat)) (cst N h0 c) = some (cst N h0 c') ∧ fr 227 231 c c' ∧ CT c' F n z 0 := by
  intro k
  induction k with
  | zero =>
    intro p c bh m h1 h2 h3 h4 hL hT hs ht hne
    have h700 := hT.1
    have hp : p = n := by omega
    have hb : bh = n := by omega
    subst hb
    rw [Nat.sub_self] at ht
    have ht' : tk F bh m = (0, bh, 0, bh) := ht
    obtain ⟨c1, q1, q2⟩ := k_app (h0 := h0) C hL (show m ≤ 700 by omega) hs.1 (tk F bh m)
    have hs1 := q2.tks hs
    obtain ⟨c2, hc2⟩ : ∃ c2, c2 = csI c1 227 4 (i32 0) := ⟨_, rfl⟩
    have f2 : fr 227 228 c1 c2 := by rw [hc2]; exact fr.I (by omega) (by omega)
    have hL1 := hL.same q2.1.2.1 q2.1.2.2
    have hL2 := hL1.same f2.2.1 f2.2.2
    have hs2 : TKS c2 F bh (m + 1) := ⟨by rw [hc2, sI_o (by omega)]; exact hs1.1, fun j hj => by rw [(f2.1 228 (by omega)).2, (f2.1 229 (by omega)).2, (f2.1 230 (by omega)).2]; exact hs1.2 j hj⟩
    obtain ⟨c', z1, z2, z3, z4, z5, z6, z7⟩ := k_adv0 (h0 := h0) (j := 0) C hL2 (show m + 1 ≤ 701 by omega) (by omega) hs2 (by rw [hc2, sI_s]; rfl)
    refine ⟨c', m + 1, ?_, (q2.1.tr (f2.wide (by omega) (by omega))).tr (z2.wide (by omega) (by omega)), z3, by omega, by omega, by rw [show m + 1 - 1 = m by omega, ht'], fun i hi => hne i (by omega), by rw [z4, Nat.min_eq_left (by omega)], z5, z6, z7⟩
    rw [ht'] at q1
    rw [jf_X8_startOn_24_s, hp]
    simp (disch := omega) only [i32_lit, i32_le, if_pos]
    rw [show i32 0 = i32 ((0 : Nat) : Int) from rfl, q1, xbs]
    simp (disch := omega) only [ksI, xbs]
    rw [show i32 ((0 : Nat) : Int) = i32 0 from rfl, ← hc2, z1]
    rfl
  | succ k ih =>
    intro p c bh m h1 h2 h3 h4 hL hT hs ht hne
    have h700 := hT.1
    have hF := (hT.2 p (by omega)).1
    rcases Nat.lt_or_ge p bh with hpb | hpb
    · obtain ⟨c', z, q1, q2⟩ := ih (p + 1) c bh m (by omega) (by omega) h3 h4 hL hT hs ht hne
      refine ⟨c', z, ?_, q2⟩
      rw [jf_X8_startOn_24_s, ← q1]
      simp (disch := omega) only [i32_lit, i32_neg, i32_add, i32_sub, i32_mul, i32_lt, i32_le, i32_eq, if_neg, if_pos]
      rw [show (p : Int) + 1 = ((p + 1 : Nat) : Int) by omega]
    · have hpe : p = bh := by omega
      subst hpe
      cases hB : isBb (F p) with
      | true =>
        obtain ⟨c', z, q1, q2⟩ := ih (p + 1) c (p + 1) m (by omega) (by omega) (by omega) (by omega) hL hT hs (by rw [ht, lx_blank (by omega) hB]) hne
        refine ⟨c', z, ?_, q2⟩
        have hnl : isLb (F p) = false := by
          cases hl : isLb (F p) with
          | false => rfl
          | true => rw [(isL_notD hl).2] at hB; cases hB
        have hnd : isDb (F p) = false := by
          cases hl : isDb (F p) with
          | false => rfl
          | true => rw [(isD_notB hl).1] at hB; cases hB
        have htt : jf_X8_takeToken ty (cst N h0 c) (N + 227) (N + 1) (i32 (p : Nat)) (i32 (n : Nat)) = some (i32 ((p + 1 : Nat) : Int), cst N h0 c) := by
          unfold jf_X8_takeToken
          simp (disch := omega) only [k_tpa C hT (show p < n by omega), xbs, isL_i hF, isD_i hF, isB_i hF, i32_lit, bI_eq0, hB, hnl, hnd, if_true, Bool.true_eq_false, if_false, i32_add]
          rw [show (p : Int) + 1 = ((p + 1 : Nat) : Int) by omega]
        rw [jf_X8_startOn_24_s, ← q1]
        simp (disch := omega) only [i32_lit, i32_neg, i32_add, i32_sub, i32_mul, i32_lt, i32_le, i32_eq, if_neg, htt, xb2s]
        rw [show (p : Int) + 1 = ((p + 1 : Nat) : Int) by omega]
      | false =>
        have htm : tk F n m = tkA F n p := by rw [ht, lx_tok (by omega) hB]
        obtain ⟨c1, q1, q2⟩ := k_tt (h0 := h0) C hL hT (show p < n by omega) (show m ≤ 700 by omega) hs.1 hB
        have hbh := tkA_bh F (show p < n by omega)
        rw [← htm] at q1 q2 hbh
        have hs1 := q2.tks hs
        obtain ⟨c', z, z1, z2, z3⟩ := ih (p + 1) c1 (tk F n m).2.2.2 (m + 1) (by omega) hbh.1 hbh.2.1 (by omega) (hL.same q2.1.2.1 q2.1.2.2) (hT.fr q2.1 (by omega)) hs1 rfl (fun i hi => by
          rcases Nat.lt_or_ge i m with h | h
          · exact hne i h
          · rw [show i = m by omega]; exact hbh.2.2.1)
        refine ⟨c', z, ?_, q2.1.tr z2, z3⟩
        rw [jf_X8_startOn_24_s, ← z1]
        simp (disch := omega) only [i32_lit, i32_neg, i32_add, i32_sub, i32_mul, i32_lt, i32_le, i32_eq, if_neg, q1, xb2s]
        rw [show (p : Int) + 1 = ((p + 1 : Nat) : Int) by omega]
theorem k_so (C : CH ty N) (hL : LY c) (hT : TPc c F n) : ∃ c' z, jf_X8_startOn ty (cst N h0 c) (N + 227) (N + 1) (i32 (n : Nat)) = some (cst N h0 c') ∧ fr 227 231 c c' ∧ CT c' F n z 0 := by
  have h700 := hT.1
  obtain ⟨c1, hc1⟩ : ∃ c1, c1 = csI c 227 3 (i32 0) := ⟨_, rfl⟩
  have f1 : fr 227 231 c c1 := by rw [hc1]; exact fr.I (by omega) (by omega)
  obtain ⟨c', z, q1, q2, q3⟩ := k_so24 (h0 := h0) C n 0 c1 0 0 (by omega) (by omega) (by omega) (by omega) (hL.same f1.2.1 f1.2.2) (hT.fr f1 (by omega)) ⟨by rw [hc1, sI_s]; rfl, fun j hj => by omega⟩ rfl (fun i hi => by omega)
  refine ⟨c', z, ?_, f1.tr q2, q3⟩
  unfold jf_X8_startOn
  simp (disch := omega) only [ksI, xbs, i32_lit, kln C (show ct 1 = some (1, 700) by decide)]
  rw [← hc1, xmin_i (by omega) (by omega) (by omega) (by omega), xmin_i (by omega) (by omega) (by omega) (by omega), show min (n : Int) (min ((700 : Nat) : Int) 700) = (n : Int) by omega]
  exact jf_X8_startOn_24_l q1
end LEXC

/-! TOKENS: the model -/
section LEXR
variable {ty : xTy} {N M : Nat} {hA hB h0 : xH} {mm mi : Nat → Nat} {c : CS} {I : Nat → Int32} {A : Nat → Nat → Int32} {J : Nat → Int64} {g : Sg} {b : Bk} {F : Nat → Nat} {n : Nat}
def TPr (A : Nat → Nat → Int32) (F : Nat → Nat) (n : Nat) : Prop := n ≤ 700 ∧ (∀ k, k < n → F k < 256 ∧ A 0 k = i32 (F k : Nat)) ∧ ∀ k, k < 14 → A 3 k = wordsR k
/-- a token of the class, and what the model says of it -/
def rel (t : Tk) (k w : Int32) : Prop := (t.1 = 0 ∧ k = i32 0) ∨ (t.1 = 1 ∧ (k = i32 6 ∨ (k = i32 4 ∧ w ≠ i32 59 ∧ w ≠ i32 40 ∧ w ≠ i32 41 ∧ w ≠ i32 44) ∨ (k = i32 5 ∧ w ≠ i32 2))) ∨ (t.1 = 2 ∧ k = i32 2 ∧ w = i32 (t.2.2.1 : Nat)) ∨ (t.1 = 3 ∧ k = i32 1 ∧ w = i32 0) ∨ (t.1 = 4 ∧ k = i32 1 ∧ w = i32 1) ∨ (t.1 = 5 ∧ k = i32 1 ∧ w = i32 2) ∨ (t.1 = 6 ∧ k = i32 3 ∧ ∃ W : Nat, w = i32 (W : Nat) ∧ W ≤ 1000000 ∧ t.2.2.1 = min 1000 W) ∨ ((t.1 = 59 ∨ t.1 = 40 ∨ t.1 = 41 ∨ t.1 = 44) ∧ k = i32 4 ∧ w = i32 (t.1 : Nat)) ∨ (t.1 = 61 ∧ k = i32 5 ∧ w = i32 2)
def TR (I : Nat → Int32) (t : Tk) : Prop := rel t (I 8) (I 9) ∧ I 10 = i32 (t.2.1 : Nat) ∧ (t.1 ≠ 1 → I 7 = i32 (t.2.2.2 : Nat))
theorem r_tpa (H : MH ty M mm mi h0) (h : TPr A F n) {q : Nat} (hq : q < n) : xga 1 ty (rst mm mi h0 M I A J) (mm 0) (i32 (q : Nat)) = some (i32 (F q : Nat)) := by
  have := h.1
  rw [ga_0 H (by omega) (by omega), Int.toNat_natCast, (h.2.1 q hq).2]
theorem r_isS (H : MH ty M mm mi h0) (h : TPr A F n) (h6 : I 6 = i32 (n : Nat)) {q : Nat} (hq : q ≤ n) : jf_X12_isSmall ty (rst mm mi h0 M I A J) M (i32 (q : Nat)) = some (bI (decide (q < n) && isLb (F q))) := by
  have h700 := h.1
  unfold jf_X12_isSmall
  simp (disch := omega) only [rI, h6, i32_lit, i32_neg, i32_add, i32_sub, i32_mul, i32_lt, i32_le, i32_eq]
  by_cases w : (n : Int) ≤ (q : Int)
  · rw [if_pos w, decide_eq_false (by omega)]; rfl
  · have hF := (h.2.1 q (by omega)).1
    rw [if_neg w, decide_eq_true (by omega), Bool.true_and]
    unfold isLb
    simp (disch := omega) only [rr_0 H, xbs, r_tpa H h (show q < n by omega), i32_lit, i32_neg, i32_add, i32_sub, i32_mul, i32_lt, i32_le, i32_eq]
    by_cases w1 : ((F q : Nat) : Int) < 97
    · rw [if_pos w1, decide_eq_false (by omega)]; rfl
    · rw [if_neg w1, decide_eq_true (show 97 ≤ F q by omega)]
      by_cases w2 : (122 : Int) < ((F q : Nat) : Int)
      · rw [if_pos w2, decide_eq_false (by omega)]; rfl
      · rw [if_neg w2, decide_eq_true (by omega)]; rfl
theorem r_isDg (H : MH ty M mm mi h0) (h : TPr A F n) (h6 : I 6 = i32 (n : Nat)) {q : Nat} (hq : q ≤ n) : jf_X12_isDigit ty (rst mm mi h0 M I A J) M (i32 (q : Nat)) = some (bI (decide (q < n) && isDb (F q))) := by
  have h700 := h.1
  unfold jf_X12_isDigit
  simp (disch := omega) only [rI, h6, i32_lit, i32_neg, i32_add, i32_sub, i32_mul, i32_lt, i32_le, i32_eq]
  by_cases w : (n : Int) ≤ (q : Int)
  · rw [if_pos w, decide_eq_false (by omega)]; rfl
  · have hF := (h.2.1 q (by omega)).1
    rw [if_neg w, decide_eq_true (by omega), Bool.true_and]
    unfold isDb
    simp (disch := omega) only [rr_0 H, xbs, r_tpa H h (show q < n by omega), i32_lit, i32_neg, i32_add, i32_sub, i32_mul, i32_lt, i32_le, i32_eq]
    by_cases w1 : ((F q : Nat) : Int) < 48
    · rw [if_pos w1, decide_eq_false (by omega)]; rfl
    · rw [if_neg w1, decide_eq_true (show 48 ≤ F q by omega)]
      by_cases w2 : (57 : Int) < ((F q : Nat) : Int)
      · rw [if_pos w2, decide_eq_false (by omega)]; rfl
      · rw [if_neg w2, decide_eq_true (by omega)]; rfl
def WL : List Nat := [115, 105, 103, 110, 32, 118, 97, 114, 32, 114, 117, 108, 101, 32]
def eqw (F : Nat → Nat) (fm q : Nat) : Nat → Nat → Bool
  | 0, _ => true
  | k + 1, j => decide (WL.getD (fm + j) 0 = F (q + j)) && eqw F fm q k (j + 1)
theorem WL_lt : ∀ k, k < 14 → WL.getD k 0 < 256 := by decide
theorem r_wl (H : MH ty M mm mi h0) (h : TPr A F n) {k : Nat} (hk : k < 14) : xga 1 ty (rst mm mi h0 M I A J) (mm 3) (i32 (k : Nat)) = some (i32 (WL.getD k 0 : Nat)) := by
  rw [ga_3 H (by omega) (by omega), Int.toNat_natCast, h.2.2 k hk]
  rfl
theorem r_w57 (H : MH ty M mm mi h0) (h : TPr A F n) {q e v fm L : Nat} (hL : fm + L ≤ 13) (hq : q ≤ n) (hv : v < 100) (k5 : Nat → Int32 → Int32 → Int32 → Int32 → Option Int32) : ∀ (k j : Nat) (s : Bool), j + k = L → (s = true → q + L ≤ n) →
    jf_X12_wordAt_57 ty (rst mm mi h0 M I A J) k5 (k + 1) M (i32 (q : Nat)) (i32 (e : Nat)) (i32 (v : Nat)) (i32 (fm : Nat)) (i32 (L : Nat)) (bI s) (i32 (j : Nat)) = if s && eqw F fm q k j then some (i32 (v : Nat)) else k5 M (i32 (q : Nat)) (i32 (e : Nat)) (i32 ((v + 1 : Nat) : Int)) (i32 ((fm + (L + 1) : Nat) : Int)) := by
  have h700 := h.1
  intro k
  induction k with
  | zero =>
    intro j s hj hs
    rw [jf_X12_wordAt_57_s]
    simp (disch := omega) only [i32_lit, i32_le, if_pos, bI_eq0, i32_add, eqw, Bool.and_true]
    rw [show (v : Int) + 1 = ((v + 1 : Nat) : Int) by omega, show (fm : Int) + ((L : Int) + 1) = ((fm + (L + 1) : Nat) : Int) by omega]
    cases s with
    | false => simp only [if_true, Bool.false_eq_true, if_false]
    | true => simp only [if_true, Bool.true_eq_false, if_false]
  | succ k ih =>
    intro j s hj hs
    rw [jf_X12_wordAt_57_s]
    simp (disch := omega) only [i32_lit, i32_le, if_neg, bI_eq0, i32_add]
    rw [show (v : Int) + 1 = ((v + 1 : Nat) : Int) by omega, show (fm : Int) + ((L : Int) + 1) = ((fm + (L + 1) : Nat) : Int) by omega]
    cases s with
    | false => simp only [if_true, Bool.false_and, Bool.false_eq_true, if_false]
    | true =>
      have hqL := hs rfl
      have hF := (h.2.1 (q + j) (by omega)).1
      have hW := WL_lt (fm + j) (by omega)
      simp only [Bool.true_eq_false, if_false, Bool.true_and]
      rw [show (fm : Int) + (j : Int) = ((fm + j : Nat) : Int) by omega, show (q : Int) + (j : Int) = ((q + j : Nat) : Int) by omega, show (j : Int) + 1 = ((j + 1 : Nat) : Int) by omega]
      simp (disch := omega) only [rr_3 H, rr_0 H, xbs, r_wl H h (show fm + j < 14 by omega), r_tpa H h (show q + j < n by omega), i32_eq]
      rw [show eqw F fm q (k + 1) j = (decide (WL.getD (fm + j) 0 = F (q + j)) && eqw F fm q k (j + 1)) from rfl]
      by_cases w : WL.getD (fm + j) 0 = F (q + j)
      · have w' : ((WL.getD (fm + j) 0 : Nat) : Int) = ((F (q + j) : Nat) : Int) := by omega
        simp only [eq_true w', if_true]
        rw [decide_eq_true w, Bool.true_and]
        exact ih (j + 1) true (by omega) (fun _ => hqL)
      · have w' : ¬ ((WL.getD (fm + j) 0 : Nat) : Int) = ((F (q + j) : Nat) : Int) := by omega
        simp only [eq_false w', if_false]
        rw [decide_eq_false w, Bool.false_and]
        have := ih (j + 1) false (by omega) (fun h => by cases h)
        simp only [Bool.false_and] at this
        exact this
theorem r_w18 (H : MH ty M mm mi h0) (h : TPr A F n) {q e v fm L : Nat} (hL : fm + L ≤ 13) (hq : q ≤ n) (hqe : q ≤ e) (hen : e ≤ n) (hv : v < 100) (h1 : ∀ j, j < L → WL.getD (fm + j) 0 ≠ 32) (h2 : WL.getD (fm + L) 0 = 32) (k5 : Nat → Int32 → Int32 → Int32 → Int32 → Option Int32) : ∀ (k j : Nat), j + k = L →
    jf_X12_wordAt_18 ty (rst mm mi h0 M I A J) k5 (k + 1) M (i32 (q : Nat)) (i32 (e : Nat)) (i32 (v : Nat)) (i32 (fm : Nat)) (i32 (j : Nat)) = (xlim fun n57 => jf_X12_wordAt_57 ty (rst mm mi h0 M I A J) k5 n57 M (i32 (q : Nat)) (i32 (e : Nat)) (i32 (v : Nat)) (i32 (fm : Nat)) (i32 (L : Nat)) (bI (decide (L = e - q))) (i32 0)) := by
  have h700 := h.1
  intro k
  induction k with
  | zero =>
    intro j hj
    have e1 : j = L := by omega
    subst e1
    rw [jf_X12_wordAt_18_s]
    simp (disch := omega) only [i32_lit, rr_3 H, xbs, i32_add]
    rw [show (fm : Int) + (j : Int) = ((fm + j : Nat) : Int) by omega, r_wl H h (by omega), xbs, h2]
    simp (disch := omega) only [i32_sub, i32_eq]
    simp only [eq_true (show ((32 : Nat) : Int) = 32 from rfl), if_true]
    by_cases w : (j : Int) = (e : Int) - (q : Int)
    · rw [if_pos w, decide_eq_true (by omega)]; rfl
    · rw [if_neg w, decide_eq_false (by omega)]; rfl
  | succ k ih =>
    intro j hj
    have hne := h1 j (by omega)
    have hW := WL_lt (fm + j) (by omega)
    rw [jf_X12_wordAt_18_s, ← ih (j + 1) (by omega)]
    simp (disch := omega) only [i32_lit, rr_3 H, xbs, i32_add]
    rw [show (fm : Int) + (j : Int) = ((fm + j : Nat) : Int) by omega, r_wl H h (by omega), xbs]
    have w : ¬ i32 (WL.getD (fm + j) 0 : Nat) = i32 32 := by rw [i32_eq (by omega) (by omega) (by omega) (by omega)]; omega
    simp only [eq_false w, if_false]
    rw [show (j : Int) + 1 = ((j + 1 : Nat) : Int) by omega]
/-- which of the three words -/
def mwd (F : Nat → Nat) (q e : Nat) : Int := if decide (4 = e - q) && eqw F 0 q 4 0 then 0 else if decide (3 = e - q) && eqw F 5 q 3 0 then 1 else if decide (4 = e - q) && eqw F 9 q 4 0 then 2 else -1
theorem r_w5 (H : MH ty M mm mi h0) (h : TPr A F n) {q e v fm L : Nat} (hL : fm + L ≤ 13) (hq : q ≤ n) (hqe : q ≤ e) (hen : e ≤ n) (hv : v < 100) (h1 : ∀ j, j < L → WL.getD (fm + j) 0 ≠ 32) (h2 : WL.getD (fm + L) 0 = 32) {m : Nat} {r : Int32} (hrest : jf_X12_wordAt_5 ty (rst mm mi h0 M I A J) m M (i32 (q : Nat)) (i32 (e : Nat)) (i32 ((v + 1 : Nat) : Int)) (i32 ((fm + (L + 1) : Nat) : Int)) = some r) :
    jf_X12_wordAt_5 ty (rst mm mi h0 M I A J) (m + 1) M (i32 (q : Nat)) (i32 (e : Nat)) (i32 (v : Nat)) (i32 (fm : Nat)) = some (if decide (L = e - q) && eqw F fm q L 0 then i32 (v : Nat) else r) := by
  have hlen : xlen 1 ty (mm 3) = some (i32 14) := by
    unfold xlen
    rw [(H.2 3 (by decide)).2.1]
    rfl
  rw [jf_X12_wordAt_5_s]
  simp (disch := omega) only [rr_3 H, xbs, hlen, i32_le, if_neg, i32_lit]
  refine jf_X12_wordAt_18_l (n := L + 1) ?_
  refine (r_w18 H h hL hq hqe hen hv h1 h2 (jf_X12_wordAt_5 ty (rst mm mi h0 M I A J) m) L 0 (by omega)).trans ?_
  refine jf_X12_wordAt_57_l (n := L + 1) ?_
  refine (r_w57 H h hL hq hv _ L 0 (decide (L = e - q)) (by omega) (fun hs => by have := of_decide_eq_true hs; omega)).trans ?_
  split
  · rfl
  · exact hrest
theorem r_word (H : MH ty M mm mi h0) (h : TPr A F n) {q e : Nat} (hqe : q ≤ e) (hen : e ≤ n) : jf_X12_wordAt ty (rst mm mi h0 M I A J) M (i32 (q : Nat)) (i32 (e : Nat)) = some (i32 (mwd F q e)) := by
  have hlen : xlen 1 ty (mm 3) = some (i32 14) := by
    unfold xlen
    rw [(H.2 3 (by decide)).2.1]
    rfl
  have e3 : jf_X12_wordAt_5 ty (rst mm mi h0 M I A J) 1 M (i32 (q : Nat)) (i32 (e : Nat)) (i32 ((2 + 1 : Nat) : Int)) (i32 ((9 + (4 + 1) : Nat) : Int)) = some (i32 (-1)) := by
    rw [jf_X12_wordAt_5_s]
    simp (disch := omega) only [rr_3 H, xbs, hlen, i32_le, if_pos, i32_lit, i32_neg]
  have e2 := r_w5 (I := I) (J := J) H h (v := 2) (fm := 9) (L := 4) (by omega) (by omega) hqe hen (by omega) (by decide) (by decide) e3
  have e1 := r_w5 (I := I) (J := J) H h (v := 1) (fm := 5) (L := 3) (by omega) (by omega) hqe hen (by omega) (by decide) (by decide) e2
  have e0 := r_w5 (I := I) (J := J) H h (v := 0) (fm := 0) (L := 4) (by omega) (by omega) hqe hen (by omega) (by decide) (by decide) e1
  have := jf_X12_wordAt_5_l e0
  unfold jf_X12_wordAt
  rw [show (0 : Int32) = i32 ((0 : Nat) : Int) from rfl, this]
  unfold mwd
  congr 1
  split
  · rfl
  · split
    · rfl
    · split <;> rfl
theorem wd_rel {q e : Nat} (h1 : q < e) (h2 : e ≤ q + 6) (hF : ∀ i, q ≤ i → i < e → 97 ≤ F i ∧ F i ≤ 122) : wdK (hrn F q e 6) = if mwd F q e = 0 then 3 else if mwd F q e = 1 then 4 else if mwd F q e = 2 then 5 else 2 := by
  have f0 := hF q (by omega) (by omega)
  obtain ⟨m, hm⟩ : ∃ m, m = e - q := ⟨_, rfl⟩
  have he : e = q + m := by omega
  subst he
  unfold wdK mwd
  simp only [eqw, WL, hrn, Nat.add_zero]
  rcases (show m = 1 ∨ m = 2 ∨ m = 3 ∨ m = 4 ∨ m = 5 ∨ m = 6 by omega) with rfl | rfl | rfl | rfl | rfl | rfl
  · simp only [show ∀ a, q + a < q + 1 ↔ a < 1 from fun a => by omega, show q + 1 - q = 1 by omega]
    simp
    repeat' split
    all_goals omega
  · have f1 := hF (q + 1) (by omega) (by omega)
    simp only [show ∀ a, q + a < q + 2 ↔ a < 2 from fun a => by omega, show q + 2 - q = 2 by omega]
    simp
    repeat' split
    all_goals omega
  · have f1 := hF (q + 1) (by omega) (by omega)
    have f2 := hF (q + 2) (by omega) (by omega)
    simp only [show ∀ a, q + a < q + 3 ↔ a < 3 from fun a => by omega, show q + 3 - q = 3 by omega]
    simp
    repeat' split
    all_goals omega
  · have f1 := hF (q + 1) (by omega) (by omega)
    have f2 := hF (q + 2) (by omega) (by omega)
    have f3 := hF (q + 3) (by omega) (by omega)
    simp only [show ∀ a, q + a < q + 4 ↔ a < 4 from fun a => by omega, show q + 4 - q = 4 by omega]
    simp
    repeat' split
    all_goals omega
  · have f1 := hF (q + 1) (by omega) (by omega)
    have f2 := hF (q + 2) (by omega) (by omega)
    have f3 := hF (q + 3) (by omega) (by omega)
    have f4 := hF (q + 4) (by omega) (by omega)
    simp only [show ∀ a, q + a < q + 5 ↔ a < 5 from fun a => by omega, show q + 5 - q = 5 by omega]
    simp
    repeat' split
    all_goals omega
  · have f1 := hF (q + 1) (by omega) (by omega)
    have f2 := hF (q + 2) (by omega) (by omega)
    have f3 := hF (q + 3) (by omega) (by omega)
    have f4 := hF (q + 4) (by omega) (by omega)
    have f5 := hF (q + 5) (by omega) (by omega)
    simp only [show ∀ a, q + a < q + 6 ↔ a < 6 from fun a => by omega, show q + 6 - q = 6 by omega]
    simp
    repeat' split
    all_goals omega
theorem r_pk5 (H : MH ty M mm mi h0) (h : TPr A F n) {q e : Nat} (hen : e ≤ n) (hqe : q ≤ e) (hF : ∀ i, q ≤ i → i < e → 97 ≤ F i ∧ F i ≤ 122) : ∀ (k i : Nat), i + k = 6 →
    jf_X12_packed_5 ty (rst mm mi h0 M I A J) (k + 1) M (i32 (q : Nat)) (i32 (e : Nat)) (i32 (hrn F q e i : Nat)) (i32 ((q + i : Nat) : Int)) = some (i32 (hrn F q e 6 : Nat)) := by
  have h700 := h.1
  intro k
  induction k with
  | zero =>
    intro i hi
    rw [jf_X12_packed_5_s]
    simp (disch := omega) only [i32_lit, i32_neg, i32_add, i32_sub, i32_mul, i32_lt, i32_le, i32_eq, if_pos]
    rw [show i = 6 by omega]
  | succ k ih =>
    intro i hi
    have ih' := ih (i + 1) (by omega)
    rw [jf_X12_packed_5_s]
    simp (disch := omega) only [i32_lit, i32_add, i32_le, if_neg, rr_0 H, xbs]
    rw [show ((q + i : Nat) : Int) + 1 = ((q + (i + 1) : Nat) : Int) by omega, show i32 5 = i32 ((5 : Nat) : Int) from rfl, i32_shl _ (by omega), Nat.shiftLeft_eq]
    simp only [hrn] at ih'
    by_cases w : (e : Int) ≤ ((q + i : Nat) : Int)
    · rw [if_pos w, or_zero]
      rw [if_neg (by omega), Nat.add_zero] at ih'
      exact ih'
    · have hf := hF (q + i) (by omega) (by omega)
      rw [if_neg w, r_tpa H h (show q + i < n by omega), xbs, i32_sub, show ((F (q + i) : Nat) : Int) - 96 = ((F (q + i) - 96 : Nat) : Int) by omega, i32_or, or_low (show F (q + i) - 96 < 2 ^ 5 by omega)]
      rw [if_pos (by omega)] at ih'
      exact ih'
end LEXR

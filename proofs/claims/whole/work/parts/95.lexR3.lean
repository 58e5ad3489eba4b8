/-! TOKENS: the model's token -/
section LEXR3
variable {ty : xTy} {N M : Nat} {hA hB h0 : xH} {mm mi : Nat → Nat} {c : CS} {I : Nat → Int32} {A : Nat → Nat → Int32} {J : Nat → Int64} {g : Sg} {b : Bk} {F : Nat → Nat} {n : Nat}
theorem r_sg (H : MH ty M mm mi h0) (h : TPr A F n) {q : Nat} (hq : q < n) (h6 : I 6 = i32 (n : Nat)) (h7 : I 7 = i32 (q : Nat)) (h10 : I 10 = i32 (q : Nat)) : ∃ I', jf_X12_signToken ty (rst mm mi h0 M I A J) M = some (rst mm mi h0 M I' A J) ∧ keepK I I' ∧ TR I' (mkK (F q), q, 0, q + 1) := by
  have h700 := h.1
  have hF := (h.2.1 q hq).1
  obtain ⟨x, hx⟩ : ∃ x, x = F q := ⟨_, rfl⟩
  rw [← hx] at hF ⊢
  obtain ⟨I1, hI1⟩ : ∃ I1, I1 = fu (fu I 9 (i32 (x : Nat))) 7 (i32 ((q + 1 : Nat) : Int)) := ⟨_, rfl⟩
  have k1 : keepK I I1 := by rw [hI1]; exact (keepK.fu (by decide)).tr (keepK.fu (by decide))
  have i9 : I1 9 = i32 (x : Nat) := by rw [hI1, fu_ne _ _ (by decide), fu_same]
  have i7 : I1 7 = i32 ((q + 1 : Nat) : Int) := by rw [hI1, fu_same]
  have i6 : I1 6 = i32 (n : Nat) := by rw [k1 6 (by decide)]; exact h6
  have i10 : I1 10 = i32 (q : Nat) := by rw [hI1, fu_ne _ _ (by decide), fu_ne _ _ (by decide)]; exact h10
  have n10 : ¬ (1 : Int32) = 0 := by decide
  have e7 : fu I 9 (i32 (x : Nat)) 7 = i32 (q : Nat) := by rw [fu_ne _ _ (by decide)]; exact h7
  -- signs that may compare
  have hcmp : (x = 60 ∨ x = 62 ∨ x = 61) → ∃ I', jf_X12_signToken_50 ty M (rst mm mi h0 M I1 A J) = some (rst mm mi h0 M I' A J) ∧ keepK I I' ∧ TR I' (mkK x, q, 0, q + 1) := by
    intro hx3
    have hs : ∃ s, jf_X12_signToken_50 ty M (rst mm mi h0 M I1 A J) = jf_X12_signToken_74 ty M s (rst mm mi h0 M I1 A J) := by
      unfold jf_X12_signToken_50
      simp (disch := omega) only [rI, i6, i7, i32_le, i32_lit]
      by_cases w : (n : Int) ≤ ((q + 1 : Nat) : Int)
      · exact ⟨i32 0, by simp only [eq_true w, if_true]⟩
      · refine ⟨i32 (F (q + 1) : Nat), ?_⟩
        simp only [eq_false w, if_false, rr_0 H, xbs, r_tpa H h (show q + 1 < n by omega)]
    obtain ⟨s, hs⟩ := hs
    obtain ⟨I', a1, a2, a3, a4, a5⟩ := r_sg74 (I := I1) (A := A) (J := J) (ty := ty) (mm := mm) (mi := mi) (h0 := h0) (M := M) hx3 (show q + 1 ≤ 700 by omega) s i9 i7
    refine ⟨I', hs.trans a1, k1.tr a2, ?_, by rw [a3]; exact i10, fun hne => ?_⟩
    · rcases a5 with ⟨b1, b2, -⟩ | ⟨b1, b2⟩
      · rw [b1]
        exact Or.inr (Or.inr (Or.inr (Or.inr (Or.inr (Or.inr (Or.inr (Or.inr ⟨rfl, a4, b2⟩)))))))
      · have : mkK x = 1 := by unfold mkK; rw [if_neg (by omega)]
        exact Or.inr (Or.inl ⟨this, Or.inr (Or.inr ⟨a4, b2⟩)⟩)
    · rcases a5 with ⟨b1, -, b3⟩ | ⟨b1, b2⟩
      · exact b3
      · exact absurd (show mkK x = 1 by unfold mkK; rw [if_neg (by omega)]) hne
  -- one-byte signs
  have hone : ∀ (_ : x = 59 ∨ x = 40 ∨ x = 41 ∨ x = 44 ∨ x = 43 ∨ x = 45 ∨ x = 42 ∨ x = 47), ∃ I', jf_X12_signToken_270 ty M (rst mm mi h0 M I1 A J) = some (rst mm mi h0 M I' A J) ∧ keepK I I' ∧ TR I' (mkK x, q, 0, q + 1) := by
    intro hx8
    refine ⟨fu I1 8 (i32 4), ?_, k1.tr (keepK.fu (by decide)), ?_, by rw [fu_ne _ _ (by decide)]; exact i10, fun _ => by rw [fu_ne _ _ (by decide)]; exact i7⟩
    · unfold jf_X12_signToken_270
      have n11 : ¬ i32 1 = i32 0 := by decide
      simp only [rsI, xbs, i32_lit, eq_false n11, if_false]
    · have e9 : fu I1 8 (i32 4) 9 = i32 (x : Nat) := by rw [fu_ne _ _ (by decide)]; exact i9
      unfold rel
      rw [e9, fu_same]
      by_cases w : x = 59 ∨ x = 40 ∨ x = 41 ∨ x = 44
      · have : mkK x = x := by unfold mkK; rw [if_pos (by omega)]
        rw [this]
        exact Or.inr (Or.inr (Or.inr (Or.inr (Or.inr (Or.inr (Or.inr (Or.inl ⟨w, rfl, rfl⟩)))))))
      · have : mkK x = 1 := by unfold mkK; rw [if_neg (by omega)]
        rw [this]
        refine Or.inr (Or.inl ⟨rfl, Or.inr (Or.inl ⟨rfl, ?_, ?_, ?_, ?_⟩)⟩)
        · rw [ne_eq, i32_eq (by omega) (by omega) (by omega) (by omega)]; omega
        · rw [ne_eq, i32_eq (by omega) (by omega) (by omega) (by omega)]; omega
        · rw [ne_eq, i32_eq (by omega) (by omega) (by omega) (by omega)]; omega
        · rw [ne_eq, i32_eq (by omega) (by omega) (by omega) (by omega)]; omega
  have heq : ∀ v : Nat, v < 256 → (i32 (x : Nat) = i32 ((v : Nat) : Int)) = (x = v) := fun v hv => by
    rw [i32_eq (by omega) (by omega) (by omega) (by omega)]
    exact propext ⟨fun h => by omega, fun h => by omega⟩
  unfold jf_X12_signToken
  simp only [rr_0 H, xbs, rI, h7, r_tpa H h hq, ← hx, rsI, i32_lit, e7, i32_add]
  rw [show (q : Int) + 1 = ((q + 1 : Nat) : Int) by omega, ← hI1]
  simp only [i9]
  by_cases w1 : i32 (x : Nat) = i32 60
  · simp only [eq_true w1, if_true]; exact hcmp (Or.inl ((heq 60 (by omega)).mp w1))
  simp only [eq_false w1, if_false]
  by_cases w2 : i32 (x : Nat) = i32 62
  · simp only [eq_true w2, if_true]; exact hcmp (Or.inr (Or.inl ((heq 62 (by omega)).mp w2)))
  simp only [eq_false w2, if_false]
  by_cases w3 : i32 (x : Nat) = i32 61
  · simp only [eq_true w3, if_true]; exact hcmp (Or.inr (Or.inr ((heq 61 (by omega)).mp w3)))
  simp only [eq_false w3, if_false]
  by_cases w4 : i32 (x : Nat) = i32 59
  · simp only [eq_true w4, if_true]; exact hone (by have := (heq 59 (by omega)).mp w4; omega)
  simp only [eq_false w4, if_false]
  by_cases w5 : i32 (x : Nat) = i32 40
  · simp only [eq_true w5, if_true]; exact hone (by have := (heq 40 (by omega)).mp w5; omega)
  simp only [eq_false w5, if_false]
  by_cases w6 : i32 (x : Nat) = i32 41
  · simp only [eq_true w6, if_true]; exact hone (by have := (heq 41 (by omega)).mp w6; omega)
  simp only [eq_false w6, if_false]
  by_cases w7 : i32 (x : Nat) = i32 43
  · simp only [eq_true w7, if_true]; exact hone (by have := (heq 43 (by omega)).mp w7; omega)
  simp only [eq_false w7, if_false]
  by_cases w8 : i32 (x : Nat) = i32 45
  · simp only [eq_true w8, if_true]; exact hone (by have := (heq 45 (by omega)).mp w8; omega)
  simp only [eq_false w8, if_false]
  by_cases w9 : i32 (x : Nat) = i32 42
  · simp only [eq_true w9, if_true]; exact hone (by have := (heq 42 (by omega)).mp w9; omega)
  simp only [eq_false w9, if_false]
  by_cases w10 : i32 (x : Nat) = i32 47
  · simp only [eq_true w10, if_true]; exact hone (by have := (heq 47 (by omega)).mp w10; omega)
  simp only [eq_false w10, if_false]
  by_cases w11 : i32 (x : Nat) = i32 44
  · simp only [eq_true w11, if_true]; exact hone (by have := (heq 44 (by omega)).mp w11; omega)
  simp only [eq_false w11, if_false, if_true]
  have hm1 : mkK x = 1 := by
    have a1 : ¬ x = 59 := fun z => w4 ((heq 59 (by omega)).mpr z)
    have a2 : ¬ x = 61 := fun z => w3 ((heq 61 (by omega)).mpr z)
    have a3 : ¬ x = 44 := fun z => w11 ((heq 44 (by omega)).mpr z)
    have a4 : ¬ x = 40 := fun z => w5 ((heq 40 (by omega)).mpr z)
    have a5 : ¬ x = 41 := fun z => w6 ((heq 41 (by omega)).mpr z)
    unfold mkK
    rw [if_neg (by omega)]
  exact ⟨fu I1 8 (i32 6), rfl, k1.tr (keepK.fu (by decide)), Or.inr (Or.inl ⟨hm1, Or.inl (fu_same _ _ _)⟩), by rw [fu_ne _ _ (by decide)]; exact i10, fun hne => absurd hm1 hne⟩
theorem r_t52 (H : MH ty M mm mi h0) (h : TPr A F n) {q : Nat} (hq : q ≤ n) (h6 : I 6 = i32 (n : Nat)) (h7 : I 7 = i32 (q : Nat)) (hB : q < n → isBb (F q) = false) : ∃ I', jf_X12_token_52 ty M (rst mm mi h0 M I A J) = some (rst mm mi h0 M I' A J) ∧ keepK I I' ∧ TR I' (lx F n (n - q) q) := by
  have h700 := h.1
  obtain ⟨I1, hI1⟩ : ∃ I1, I1 = fu I 10 (i32 (q : Nat)) := ⟨_, rfl⟩
  have k1 : keepK I I1 := by rw [hI1]; exact keepK.fu (by decide)
  have i6 : I1 6 = i32 (n : Nat) := by rw [hI1, fu_ne _ _ (by decide)]; exact h6
  have i7 : I1 7 = i32 (q : Nat) := by rw [hI1, fu_ne _ _ (by decide)]; exact h7
  have i10 : I1 10 = i32 (q : Nat) := by rw [hI1, fu_same]
  unfold jf_X12_token_52
  simp only [rI, h7, rsI, xbs, i32_lit]
  rw [← hI1]
  simp (disch := omega) only [rI, i6, i7, r_isS H h i6 hq, r_isDg H h i6 hq, xbs, bI_eq0, i32_eq]
  by_cases w : (q : Int) = (n : Int)
  · simp only [eq_true w, if_true]
    have e : q = n := by omega
    refine ⟨fu I1 8 (i32 0), rfl, k1.tr (keepK.fu (by decide)), ?_⟩
    rw [e, Nat.sub_self]
    refine ⟨Or.inl ⟨rfl, fu_same _ _ _⟩, ?_, fun _ => ?_⟩
    · rw [fu_ne _ _ (by decide), i10, e]; rfl
    · rw [fu_ne _ _ (by decide), i7, e]; rfl
  · have hqn : q < n := by omega
    have hF := (h.2.1 q hqn).1
    rw [lx_tok hqn (hB hqn), decide_eq_true hqn, Bool.true_and, Bool.true_and]
    simp only [eq_false w, if_false]
    cases hl : isLb (F q) with
    | true =>
      simp only [Bool.true_eq_false, if_false]
      obtain ⟨I', a1, a2, a3⟩ := r_t90 (J := J) H h hqn rfl hl (n - q) 0 I1 (by omega) i6 i7 i10 rfl
      exact ⟨I', jf_X12_token_90_l a1, k1.tr a2, a3⟩
    | false =>
      simp only [if_true]
      cases hd : isDb (F q) with
      | true =>
        simp only [Bool.true_eq_false, if_false]
        obtain ⟨I2, hI2⟩ : ∃ I2, I2 = fu (fu I1 8 (i32 3)) 9 (i32 0) := ⟨_, rfl⟩
        have k2 : keepK I1 I2 := by rw [hI2]; exact (keepK.fu (by decide)).tr (keepK.fu (by decide))
        obtain ⟨I', W', a1, a2, a3, a4, a5, a6⟩ := r_t213 (J := J) H h (n - q) q 0 I2 (by omega) (by rw [k2 6 (by decide)]; exact i6) (by rw [hI2, fu_ne _ _ (by decide), fu_ne _ _ (by decide)]; exact i7) (by rw [hI2, fu_same]; rfl) (by omega)
        have htk : tkA F n q = (6, q, nmV F (n - q) q 0, run isDb F (n - q) q) := by unfold tkA; rw [hl, hd]; rfl
        rw [htk]
        refine ⟨I', by rw [hI2] at a1; exact jf_X12_token_213_l a1, (k1.tr k2).tr (fun k hk => a2 k (fun z => hk (by rw [z]; decide)) (fun z => hk (by rw [z]; decide))), ?_, ?_, fun _ => a3⟩
        · refine Or.inr (Or.inr (Or.inr (Or.inr (Or.inr (Or.inr (Or.inl ⟨rfl, ?_, W', a4, a5, a6⟩))))))
          rw [a2 8 (by decide) (by decide), hI2, fu_ne _ _ (by decide), fu_same]
        · rw [a2 10 (by decide) (by decide), hI2, fu_ne _ _ (by decide), fu_ne _ _ (by decide)]; exact i10
      | false =>
        simp only [if_true]
        obtain ⟨I', a1, a2, a3⟩ := r_sg (I := I1) (J := J) H h hqn i6 i7 i10
        have htk : tkA F n q = (mkK (F q), q, 0, q + 1) := by unfold tkA; rw [hl, hd]; rfl
        rw [htk]
        exact ⟨I', by rw [a1]; rfl, k1.tr a2, a3⟩
theorem r_t0 (H : MH ty M mm mi h0) (h : TPr A F n) : ∀ (k q : Nat) (I : Nat → Int32), q + k = n → I 6 = i32 (n : Nat) → I 7 = i32 (q : Nat) →
    ∃ I', jf_X12_token_0 ty (k + 1) M (rst mm mi h0 M I A J) = some (rst mm mi h0 M I' A J) ∧ keepK I I' ∧ TR I' (lx F n (n - q) q) := by
  have h700 := h.1
  intro k
  induction k with
  | zero =>
    intro q I h1 h6 h7
    obtain ⟨I', a1, a2⟩ := r_t52 (J := J) H h (show q ≤ n by omega) h6 h7 (fun h => by omega)
    refine ⟨I', ?_, a2⟩
    rw [jf_X12_token_0_s, ← a1]
    simp (disch := omega) only [rI, h6, h7, i32_le, if_pos]
  | succ k ih =>
    intro q I h1 h6 h7
    have hF := (h.2.1 q (by omega)).1
    obtain ⟨I1, hI1⟩ : ∃ I1, I1 = fu I 7 (i32 ((q + 1 : Nat) : Int)) := ⟨_, rfl⟩
    have hhead : jf_X12_token_0 ty (k + 1 + 1) M (rst mm mi h0 M I A J) = if isBb (F q) = true then jf_X12_token_0 ty (k + 1) M (rst mm mi h0 M I1 A J) else jf_X12_token_52 ty M (rst mm mi h0 M I A J) := by
      rw [jf_X12_token_0_s]
      simp (disch := omega) only [rI, h6, h7, i32_lit, i32_le, if_neg, rr_0 H, r_tpa H h (show q < n by omega), xbs, i32_eq, i32_add, rsI]
      rw [show (q : Int) + 1 = ((q + 1 : Nat) : Int) by omega, ← hI1]
      unfold isBb
      by_cases w1 : ((F q : Nat) : Int) = 10
      · simp only [eq_true w1, if_true]
        rw [decide_eq_true (show F q = 10 by omega), Bool.true_or, if_pos rfl]
      · simp only [eq_false w1, if_false]
        rw [decide_eq_false (show ¬ F q = 10 by omega), Bool.false_or]
        by_cases w2 : ((F q : Nat) : Int) = 32
        · simp only [eq_true w2, if_true]
          rw [decide_eq_true (show F q = 32 by omega), if_pos rfl]
        · simp only [eq_false w2, if_false]
          rw [decide_eq_false (show ¬ F q = 32 by omega), if_neg (by decide)]
    cases hB : isBb (F q) with
    | true =>
      obtain ⟨I', a1, a2, a3⟩ := ih (q + 1) I1 (by omega) (by rw [hI1, fu_ne _ _ (by decide)]; exact h6) (by rw [hI1, fu_same])
      refine ⟨I', ?_, (show keepK I I1 by rw [hI1]; exact keepK.fu (by decide)).tr a2, ?_⟩
      · rw [hhead, if_pos hB]; exact a1
      · rw [lx_blank (by omega) hB]; exact a3
    | false =>
      obtain ⟨I', a1, a2⟩ := r_t52 (J := J) H h (show q ≤ n by omega) h6 h7 (fun _ => hB)
      refine ⟨I', ?_, a2⟩
      rw [hhead, if_neg (by rw [hB]; decide)]; exact a1
/-- the model looks at the j-th token -/
def RT (I : Nat → Int32) (F : Nat → Nat) (n j : Nat) : Prop := I 6 = i32 (n : Nat) ∧ TR I (tk F n j)
theorem r_tok (H : MH ty M mm mi h0) (h : TPr A F n) {j : Nat} (hR : RT I F n j) (hne : (tk F n j).1 ≠ 1) : ∃ I', jf_X12_token ty (rst mm mi h0 M I A J) M = some (rst mm mi h0 M I' A J) ∧ keepK I I' ∧ RT I' F n (j + 1) := by
  have hp := pos_le F n (j + 1)
  obtain ⟨I', a1, a2, a3⟩ := r_t0 (J := J) H h (n - pos F n (j + 1)) (pos F n (j + 1)) I (by omega) hR.1 (hR.2.2.2 hne)
  exact ⟨I', jf_X12_token_0_l a1, a2, by rw [a2 6 (by decide)]; exact hR.1, a3⟩
theorem r_tok0 (H : MH ty M mm mi h0) (h : TPr A F n) (h6 : I 6 = i32 (n : Nat)) (h7 : I 7 = i32 0) : ∃ I', jf_X12_token ty (rst mm mi h0 M I A J) M = some (rst mm mi h0 M I' A J) ∧ keepK I I' ∧ RT I' F n 0 := by
  obtain ⟨I', a1, a2, a3⟩ := r_t0 (J := J) H h n 0 I (by omega) h6 h7
  exact ⟨I', jf_X12_token_0_l a1, a2, by rw [a2 6 (by decide)]; exact h6, a3⟩
end LEXR3

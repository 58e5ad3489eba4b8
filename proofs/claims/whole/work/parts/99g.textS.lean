/-! TEXT: variables, rules, in the model -/
section TEXTS
variable {ty : xTy} {N M : Nat} {hA hB h0 : xH} {mm mi : Nat → Nat} {c : CS} {I I' : Nat → Int32} {A A' : Nat → Nat → Int32} {J : Nat → Int64} {g : Sg} {b : Bk} {F : Nat → Nat} {n : Nat}
theorem r_vrL (H : MH ty M mm mi h0) (hb : bwf b) {j : Nat} (hT : TPr A F n) (hR : RT I F n j) (hB : RBr I A b) (hne : (tk F n j).1 ≠ 1) : ∃ I' A', jf_X12_varLine ty (rst mm mi h0 M I A J) M = some (bI (decide ((vrL (tk F n) b j).1 = 0)), rst mm mi h0 M I' A' J) ∧ LRr F n I I' A A' (vrL (tk F n) b j) := by
  have h8 := hb.1
  have h4 := hb.2.1
  have hb0 := bw_0 hb
  unfold jf_X12_varLine
  simp only [rI, hB.2.1, i32_lit]
  by_cases w0 : bnv b = 4
  · have w0' : i32 (bnv b : Nat) = i32 4 := by rw [w0]; rfl
    have e : vrL (tk F n) b j = (2, j, b) := by unfold vrL; rw [if_pos w0]
    rw [e]
    simp only [eq_true w0', if_true]
    obtain ⟨I', q1, q2⟩ := r_flL (ty := ty) (M := M) (mm := mm) (mi := mi) (h0 := h0) (A := A) (J := J) (b' := b) hR (show (2 : Nat) ≠ 0 by decide)
    exact ⟨I', A, q1, q2⟩
  · have w0' : ¬ i32 (bnv b : Nat) = i32 4 := by rw [i32_eq (by omega) (by omega) (by omega) (by omega)]; omega
    obtain ⟨I1, a1, a2, a3⟩ := r_tok (J := J) H hT hR hne
    obtain ⟨kd1, kd2, kd3⟩ := r_kd a3
    have hB1 : RBr I1 A b := hB.keep (fun k hk => a2 k (by
      simp only [List.mem_cons, List.not_mem_nil, or_false] at hk ⊢
      omega)) (fun _ _ => rfl)
    have k1 : keepT I I1 := keepT.R (keepR.K a2)
    simp only [eq_false w0', if_false, a1, xbs, rI]
    unfold vrL
    rw [if_neg w0]
    by_cases w1 : (tk F n (j + 1)).1 = 2
    · rw [if_neg (show ¬ (tk F n (j + 1)).1 ≠ 2 from fun e => e w1)]
      have w1' := kd1.mpr w1
      have e9 : I1 9 = tkV (tk F n) (j + 1) := kd3 w1
      have ecd : jf_X12_codeBy ty (rst mm mi h0 M I1 A J) M (i32 1) (tkV (tk F n) (j + 1)) = some (i32 (lkN b (tkV (tk F n) (j + 1)))) := r_cdN H (v := 1) (Or.inr rfl) hb0 hB1.nm _
      have hr := lkN_rg ⟨h8, hb.2.1⟩ (tkV (tk F n) (j + 1))
      have hr2 : -1 ≤ lkN b (tkV (tk F n) (j + 1)) ∧ lkN b (tkV (tk F n) (j + 1)) < 1000 := by
        unfold vc at hr; omega
      simp only [eq_true w1', if_true, e9, ecd, xbs]
      by_cases w2 : lkN b (tkV (tk F n) (j + 1)) = -1
      · rw [if_neg (show ¬ lkN b (tkV (tk F n) (j + 1)) ≠ -1 from fun e => e w2)]
        have w2' : i32 (lkN b (tkV (tk F n) (j + 1))) < i32 0 := by rw [w2]; decide
        obtain ⟨A2, hA2⟩ : ∃ A2, A2 = fu2 A 20 (4 + bnv b) (tkV (tk F n) (j + 1)) := ⟨_, rfl⟩
        have l2 : lowA A A2 := by rw [hA2]; exact lowA.fu (by decide) (by show 4 ≤ 4 + bnv b; omega)
        have hT2 := hT.low l2
        obtain ⟨I2, hI2⟩ : ∃ I2, I2 = fu I1 16 (i32 ((bnv b + 1 : Nat) : Int)) := ⟨_, rfl⟩
        have hR2 : RT I2 F n (j + 1) := by
          unfold RT TR at *
          rw [hI2, fu_ne _ _ (by decide), fu_ne _ _ (by decide), fu_ne _ _ (by decide), fu_ne _ _ (by decide), fu_ne _ _ (by decide)]
          exact a3
        obtain ⟨I3, t1, t2, t3⟩ := r_tok (J := J) H hT2 hR2 (by omega)
        have k3 : keepT I I3 := (k1.tr (by rw [hI2]; exact keepT.fu (by decide))).tr (keepT.R (keepR.K t2))
        have hw : xwa 1 ty (rst mm mi h0 M I1 A J) (mm 20) (i32 4 + i32 (bnv b : Nat)) (tkV (tk F n) (j + 1)) = some (rst mm mi h0 M I1 A2 J) := by
          rw [i32_add, show (4 : Int) + (bnv b : Int) = ((4 + bnv b : Nat) : Int) by omega, wa_20 H (by omega) (by omega), Int.toNat_natCast, ← hA2]
        have kk : ∀ k, k ∈ [15, 17, 4, 5] → I3 k = I k := fun k hk => by
          simp only [List.mem_cons, List.not_mem_nil, or_false] at hk
          rw [t2 k (by simp only [List.mem_cons, List.not_mem_nil, or_false]; omega), hI2, fu_ne _ _ (by omega), a2 k (by simp only [List.mem_cons, List.not_mem_nil, or_false]; omega)]
        refine ⟨I3, A2, ?_, k3, l2, fun _ => ⟨t3, ?_, kk 4 (by decide), kk 5 (by decide)⟩, fun e => absurd rfl e⟩
        · simp only [eq_true w2', if_true, rr_20 H, xbs, hB1.2.1, hw, rI, rsI]
          simp only [i32_add]
          rw [show (bnv b : Int) + 1 = ((bnv b + 1 : Nat) : Int) by omega, ← hI2, t1, xbs]
          rfl
        · show RBr I3 A2 (bAddV b (tkV (tk F n) (j + 1)))
          have hr6 : ∀ k, k ≠ 20 → A2 k = A k := fun k x1 => by rw [hA2, fu2_row _ _ x1]
          refine ⟨(kk 15 (by decide)).trans hB.1, by rw [t2 16 (by decide), hI2, fu_same]; rfl, (kk 17 (by decide)).trans hB.2.2.1, fun k hk => by rw [hr6 18 (by decide), hr6 19 (by decide)]; exact hB.2.2.2.1 k hk, fun k hk => ?_, fun r hr => by rw [hr6 21 (by decide), hr6 22 (by decide), hr6 23 (by decide), hr6 24 (by decide), hr6 25 (by decide)]; exact hB.2.2.2.2.2 r hr⟩
          show A2 20 (4 + k) = fu (bvn b) (bnv b) (tkV (tk F n) (j + 1)) k
          have hk' : k < bnv b + 1 := hk
          rw [hA2]
          by_cases w : k = bnv b
          · rw [w, fu_same, fu2_same]
          · rw [fu_ne _ _ w, fu2_ne _ _ (by omega)]
            exact hB.2.2.2.2.1 k (by omega)
      · rw [if_pos w2]
        have w2' : ¬ i32 (lkN b (tkV (tk F n) (j + 1))) < i32 0 := by rw [i32_lt (by omega) (by omega) (by omega) (by omega)]; omega
        simp only [eq_false w2', if_false]
        obtain ⟨I4, r1, r2⟩ := r_flL (ty := ty) (M := M) (mm := mm) (mi := mi) (h0 := h0) (A := A) (J := J) (b' := b) a3 (show (3 : Nat) ≠ 0 by decide)
        exact ⟨I4, A, r1, k1.tr r2.1, r2.2.1, fun e => (by cases e), r2.2.2.2⟩
    · rw [if_pos w1]
      have w1' : ¬ I1 8 = i32 2 := fun e => w1 (kd1.mp e)
      simp only [eq_false w1', if_false]
      obtain ⟨I4, r1, r2⟩ := r_flL (ty := ty) (M := M) (mm := mm) (mi := mi) (h0 := h0) (A := A) (J := J) (b' := b) a3 (show (1 : Nat) ≠ 0 by decide)
      exact ⟨I4, A, r1, k1.tr r2.1, r2.2.1, fun e => (by cases e), r2.2.2.2⟩
theorem r_rl94 (H : MH ty M mm mi h0) {L : List Nat} {ρ : Nat} (hl : L.length ≤ 12) (h16 : 16 ≤ ρ) (hρ : ρ < 32) (h30 : I 30 = i32 L.length) : ∀ (k i : Nat) (A : Nat → Nat → Int32), i + k = L.length → seg (A 29) 0 L → seg (A 23) (12 * ρ) (L.take i) →
    ∃ A', jf_X12_ruleLine_94 ty (k + 1) M (i32 (ρ : Nat)) (i32 (i : Nat)) (rst mm mi h0 M I A J) = jf_X12_ruleLine_94 ty 1 M (i32 (ρ : Nat)) (i32 (L.length : Nat)) (rst mm mi h0 M I A' J) ∧ but 23 A A' ∧ (∀ y, y < 12 * ρ → A' 23 y = A 23 y) ∧ seg (A' 23) (12 * ρ) L := by
  intro k
  induction k with
  | zero =>
    intro i A h1 h2 h3
    refine ⟨A, by rw [show i = L.length by omega], but.rf, fun _ _ => rfl, by rw [List.take_of_length_le (by omega)] at h3; exact h3⟩
  | succ k ih =>
    intro i A h1 h2 h3
    obtain ⟨d, hd⟩ := get_some (L := L) (i := i) (by omega)
    have h29 : A 29 i = i32 (d : Nat) := by
      have := h2 i d hd
      rw [Nat.zero_add] at this
      exact this
    obtain ⟨A1, hA1⟩ : ∃ A1, A1 = fu2 A 23 (12 * ρ + i) (i32 (d : Nat)) := ⟨_, rfl⟩
    have hlt : (L.take i).length = i := by rw [List.length_take]; omega
    obtain ⟨A', q1, q2, q3, q4⟩ := ih (i + 1) A1 (by omega) (by rw [hA1, fu2_row _ _ (by decide)]; exact h2) (by
      rw [List.take_add_one, hd, hA1]
      exact seg_snoc (seg_fu2 h3 (by omega)) (by rw [hlt, fu2_same]))
    refine ⟨A', ?_, but.tr (by rw [hA1]; exact but.fu) q2, fun y hy => by rw [q3 y hy, hA1, fu2_ne _ _ (by omega)], q4⟩
    rw [jf_X12_ruleLine_94_s, ← q1]
    simp (disch := omega) only [rI, h30, i32_lit, i32_neg, i32_add, i32_sub, i32_mul, i32_lt, i32_le, i32_eq, if_neg, rr_23 H, rr_29 H, ga_29 H, xbs, Int.toNat_natCast, h29]
    rw [show (12 : Int) * (ρ : Int) + (i : Int) = ((12 * ρ + i : Nat) : Int) by omega, wa_23 H (by omega) (by omega), xbs, Int.toNat_natCast, ← hA1, show (i : Int) + 1 = ((i + 1 : Nat) : Int) by omega]
theorem r_rl175 (H : MH ty M mm mi h0) {L : List Nat} {ρ : Nat} (hl : L.length ≤ 12) (h16 : 16 ≤ ρ) (hρ : ρ < 32) (h30 : I 30 = i32 L.length) : ∀ (k i : Nat) (A : Nat → Nat → Int32), i + k = L.length → seg (A 29) 0 L → seg (A 25) (12 * ρ) (L.take i) →
    ∃ A', jf_X12_ruleLine_175 ty (k + 1) M (i32 (ρ : Nat)) (i32 (i : Nat)) (rst mm mi h0 M I A J) = jf_X12_ruleLine_175 ty 1 M (i32 (ρ : Nat)) (i32 (L.length : Nat)) (rst mm mi h0 M I A' J) ∧ but 25 A A' ∧ (∀ y, y < 12 * ρ → A' 25 y = A 25 y) ∧ seg (A' 25) (12 * ρ) L := by
  intro k
  induction k with
  | zero =>
    intro i A h1 h2 h3
    refine ⟨A, by rw [show i = L.length by omega], but.rf, fun _ _ => rfl, by rw [List.take_of_length_le (by omega)] at h3; exact h3⟩
  | succ k ih =>
    intro i A h1 h2 h3
    obtain ⟨d, hd⟩ := get_some (L := L) (i := i) (by omega)
    have h29 : A 29 i = i32 (d : Nat) := by
      have := h2 i d hd
      rw [Nat.zero_add] at this
      exact this
    obtain ⟨A1, hA1⟩ : ∃ A1, A1 = fu2 A 25 (12 * ρ + i) (i32 (d : Nat)) := ⟨_, rfl⟩
    have hlt : (L.take i).length = i := by rw [List.length_take]; omega
    obtain ⟨A', q1, q2, q3, q4⟩ := ih (i + 1) A1 (by omega) (by rw [hA1, fu2_row _ _ (by decide)]; exact h2) (by
      rw [List.take_add_one, hd, hA1]
      exact seg_snoc (seg_fu2 h3 (by omega)) (by rw [hlt, fu2_same]))
    refine ⟨A', ?_, but.tr (by rw [hA1]; exact but.fu) q2, fun y hy => by rw [q3 y hy, hA1, fu2_ne _ _ (by omega)], q4⟩
    rw [jf_X12_ruleLine_175_s, ← q1]
    simp (disch := omega) only [rI, h30, i32_lit, i32_neg, i32_add, i32_sub, i32_mul, i32_lt, i32_le, i32_eq, if_neg, rr_25 H, rr_29 H, ga_29 H, xbs, Int.toNat_natCast, h29]
    rw [show (12 : Int) * (ρ : Int) + (i : Int) = ((12 * ρ + i : Nat) : Int) by omega, wa_25 H (by omega) (by omega), xbs, Int.toNat_natCast, ← hA1, show (i : Int) + 1 = ((i + 1 : Nat) : Int) by omega]
/-- a rule is in the book that is read -/
theorem RBr_R (hb : bwf b) {x : Int32} {T U : List Nat} (h : RBr I A b) (h15 : I' 15 = I 15) (h16 : I' 16 = I 16) (h17 : I' 17 = i32 ((bnr b + 1 : Nat) : Int)) (hk : ∀ k ∈ [18, 19, 20], A' k = A k) (e21 : A' 21 (16 + bnr b) = x) (e22 : A' 22 (16 + bnr b) = i32 T.length) (e23 : seg (A' 23) (12 * (16 + bnr b)) T) (e24 : A' 24 (16 + bnr b) = i32 U.length) (e25 : seg (A' 25) (12 * (16 + bnr b)) U) (l1 : ∀ i, i < 16 + bnr b → A' 21 i = A 21 i ∧ A' 22 i = A 22 i ∧ A' 24 i = A 24 i) (l2 : ∀ i, i < 12 * (16 + bnr b) → A' 23 i = A 23 i ∧ A' 25 i = A 25 i) : RBr I' A' (bAddR b x T U) := by
  refine ⟨h15.trans h.1, h16.trans h.2.1, h17, fun k hk' => by rw [hk 18 (by decide), hk 19 (by decide)]; exact h.2.2.2.1 k hk', fun k hk' => by rw [hk 20 (by decide)]; exact h.2.2.2.2.1 k hk', fun r hr => ?_⟩
  have hr' : r < bnr b + 1 := hr
  show A' 21 (16 + r) = fu (brn b) (bnr b) x r ∧ A' 22 (16 + r) = i32 (fu (bT b) (bnr b) T r).length ∧ seg (A' 23) (12 * (16 + r)) (fu (bT b) (bnr b) T r) ∧ A' 24 (16 + r) = i32 (fu (bU b) (bnr b) U r).length ∧ seg (A' 25) (12 * (16 + r)) (fu (bU b) (bnr b) U r)
  by_cases w : r = bnr b
  · rw [w, fu_same, fu_same, fu_same]
    exact ⟨e21, e22, e23, e24, e25⟩
  · rw [fu_ne _ _ w, fu_ne _ _ w, fu_ne _ _ w]
    have hr2 : r < bnr b := by omega
    obtain ⟨a1, a2, a3, a4, a5⟩ := h.2.2.2.2.2 r hr2
    obtain ⟨t1, t2⟩ := hb.2.2.2.2 r hr2
    have hl1 := t1.2.1
    have hl2 : (bU b r).length ≤ 12 := by
      rcases t2 with e | e
      · rw [e]; simp
      · exact e.1.2.1
    obtain ⟨m1, m2, m3⟩ := l1 (16 + r) (by omega)
    exact ⟨m1.trans a1, m2.trans a2, seg_congr a3 (fun i i1 i2 => (l2 i (by omega)).1), m3.trans a4, seg_congr a5 (fun i i1 i2 => (l2 i (by omega)).2)⟩
end TEXTS

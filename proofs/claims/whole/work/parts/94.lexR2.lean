/-! TOKENS: the model's next one -/
section LEXR2
variable {ty : xTy} {N M : Nat} {hA hB h0 : xH} {mm mi : Nat → Nat} {c : CS} {I : Nat → Int32} {A : Nat → Nat → Int32} {J : Nat → Int64} {g : Sg} {b : Bk} {F : Nat → Nat} {n : Nat}
def keepK (I I' : Nat → Int32) : Prop := ∀ k, k ∉ [7, 8, 9, 10] → I' k = I k
theorem keepK.rf : keepK I I := fun _ _ => rfl
theorem keepK.tr {I1 I2 I3 : Nat → Int32} (h1 : keepK I1 I2) (h2 : keepK I2 I3) : keepK I1 I3 := fun k hk => (h2 k hk).trans (h1 k hk)
theorem keepK.fu {k : Nat} {v : Int32} (h : k ∈ [7, 8, 9, 10]) : keepK I (fu I k v) := fun x hx => fu_ne _ _ (fun e => hx (e ▸ h))
theorem r_t90 (H : MH ty M mm mi h0) (h : TPr A F n) {q e : Nat} (hq : q < n) (he : e = run isLb F (n - q) q) (hl : isLb (F q) = true) : ∀ (k i : Nat) (I : Nat → Int32), q + i + k = n → I 6 = i32 (n : Nat) → I 7 = i32 ((q + i : Nat) : Int) → I 10 = i32 (q : Nat) → run isLb F k (q + i) = e →
    ∃ I', jf_X12_token_90 ty (k + 1) M (rst mm mi h0 M I A J) = some (rst mm mi h0 M I' A J) ∧ keepK I I' ∧ TR I' (tkA F n q) := by
  have h700 := h.1
  have hrl := run_le isLb F (n - q) q
  have hF : ∀ i, q ≤ i → i < e → 97 ≤ F i ∧ F i ≤ 122 := fun i h1 h2 => by
    have := run_all (P := isLb) (F := F) (n - q) q i h1 (by rw [← he]; exact h2)
    unfold isLb at this
    rw [Bool.and_eq_true_iff, decide_eq_true_iff, decide_eq_true_iff] at this
    exact this
  have hqe : q < e := by
    obtain ⟨k, hk⟩ : ∃ k, n - q = k + 1 := ⟨n - q - 1, by omega⟩
    rw [he, hk]
    exact run_st isLb F hl
  have hen : e ≤ n := by omega
  have htk : tkA F n q = (if 6 < e - q then 1 else wdK (hrn F q e 6), q, hrn F q e 6, e) := by unfold tkA; rw [hl, if_pos rfl, ← he]
  -- the word is at its end
  have hend : ∀ (I : Nat → Int32) (m : Nat), I 6 = i32 (n : Nat) → I 7 = i32 (e : Nat) → I 10 = i32 (q : Nat) → (decide (e < n) && isLb (F e)) = false → ∃ I', jf_X12_token_90 ty (m + 1) M (rst mm mi h0 M I A J) = some (rst mm mi h0 M I' A J) ∧ keepK I I' ∧ TR I' (tkA F n q) := by
    intro I m h6 h7 h10 hno
    obtain ⟨I1, hI1⟩ : ∃ I1, I1 = fu I 9 (i32 (mwd F q e)) := ⟨_, rfl⟩
    have k1 : keepK I I1 := by rw [hI1]; exact keepK.fu (by decide)
    have i9 : I1 9 = i32 (mwd F q e) := by rw [hI1, fu_same]
    have i7 : I1 7 = i32 (e : Nat) := by rw [hI1, fu_ne _ _ (by decide)]; exact h7
    have i10 : I1 10 = i32 (q : Nat) := by rw [hI1, fu_ne _ _ (by decide)]; exact h10
    have hms : mwd F q e = 0 ∨ mwd F q e = 1 ∨ mwd F q e = 2 ∨ mwd F q e = -1 := by
      unfold mwd
      split
      · exact Or.inl rfl
      · split
        · exact Or.inr (Or.inl rfl)
        · split
          · exact Or.inr (Or.inr (Or.inl rfl))
          · exact Or.inr (Or.inr (Or.inr rfl))
    have hhead : jf_X12_token_90 ty (m + 1) M (rst mm mi h0 M I A J) = if mwd F q e < 0 then (if (e : Int) - (q : Int) ≤ 6 then jf_X12_token_162 ty M M (i32 2) (rst mm mi h0 M I1 A J) else jf_X12_token_162 ty M M (i32 6) (rst mm mi h0 M I1 A J)) else jf_X12_token_162 ty M M (i32 1) (rst mm mi h0 M I1 A J) := by
      have hw := r_word (I := I) (J := J) H h (q := q) (e := e) (by omega) hen
      rw [jf_X12_token_90_s]
      simp only [rI, h7, h10, r_isS H h h6 hen, hno, xbs, i32_lit, bI_eq0, if_true, hw, rsI]
      rw [← hI1]
      simp (disch := omega) only [rI, i9, i7, i10, i32_sub, i32_le]
      simp only [i32_lt (show -2147483648 ≤ mwd F q e by omega) (by omega) (show (-2147483648 : Int) ≤ 0 by omega) (by omega)]
    have h162 : ∀ (v : Nat), v ≠ 2 → v < 100 → jf_X12_token_162 ty M M (i32 (v : Nat)) (rst mm mi h0 M I1 A J) = some (rst mm mi h0 M (fu I1 8 (i32 (v : Nat))) A J) := by
      intro v hv hv2
      unfold jf_X12_token_162
      have hne : ¬ i32 (v : Nat) = i32 2 := by rw [i32_eq (by omega) (by omega) (by omega) (by omega)]; omega
      simp only [rsI, xbs, rI, fu_same, i32_lit, eq_false hne, if_false]
    by_cases w : mwd F q e < 0
    · have hm1 : mwd F q e = -1 := by omega
      by_cases w6 : (e : Int) - (q : Int) ≤ 6
      · -- a name
        obtain ⟨I2, hI2⟩ : ∃ I2, I2 = fu I1 8 (i32 2) := ⟨_, rfl⟩
        have j10 : I2 10 = i32 (q : Nat) := by rw [hI2, fu_ne _ _ (by decide)]; exact i10
        have j7 : I2 7 = i32 (e : Nat) := by rw [hI2, fu_ne _ _ (by decide)]; exact i7
        have j8 : I2 8 = i32 2 := by rw [hI2, fu_same]
        have hpk : jf_X12_packed ty (rst mm mi h0 M I2 A J) M (i32 (q : Nat)) (i32 (e : Nat)) = some (i32 (hrn F q e 6 : Nat)) := jf_X12_packed_5_l (r_pk5 (I := I2) (J := J) H h hen (by omega) hF 6 0 (by omega))
        have hwk := wd_rel (F := F) hqe (by omega) hF
        rw [hm1] at hwk
        refine ⟨fu I2 9 (i32 (hrn F q e 6 : Nat)), ?_, (k1.tr (by rw [hI2]; exact keepK.fu (by decide))).tr (keepK.fu (by decide)), ?_, ?_, fun _ => ?_⟩
        · rw [hhead, if_pos w, if_pos w6]
          unfold jf_X12_token_162
          simp only [rsI, xbs, i32_lit]
          rw [← hI2]
          simp only [rI, j8, if_true, j10, j7, hpk, xbs, rsI]
        · rw [htk, if_neg (by omega), hwk]
          refine Or.inr (Or.inr (Or.inl ⟨rfl, ?_, ?_⟩))
          · rw [fu_ne _ _ (by decide)]; exact j8
          · rw [fu_same]
        · rw [fu_ne _ _ (by decide), htk]; exact j10
        · rw [fu_ne _ _ (by decide), htk]; exact j7
      · refine ⟨fu I1 8 (i32 6), ?_, k1.tr (keepK.fu (by decide)), ?_, ?_, fun hx => ?_⟩
        · rw [hhead, if_pos w, if_neg w6]
          exact h162 6 (by omega) (by omega)
        · rw [htk, if_pos (by omega)]
          exact Or.inr (Or.inl ⟨rfl, Or.inl (fu_same _ _ _)⟩)
        · rw [fu_ne _ _ (by decide), htk]; exact i10
        · rw [htk, if_pos (by omega)] at hx
          exact absurd rfl hx
    · have hqe6 : e ≤ q + 6 := by
        have : e - q = 4 ∨ e - q = 3 := by
          unfold mwd at w
          split at w
          · rename_i hc
            rw [Bool.and_eq_true_iff, decide_eq_true_iff] at hc
            omega
          · split at w
            · rename_i hc
              rw [Bool.and_eq_true_iff, decide_eq_true_iff] at hc
              omega
            · split at w
              · rename_i hc
                rw [Bool.and_eq_true_iff, decide_eq_true_iff] at hc
                omega
              · omega
        omega
      have hwk := wd_rel (F := F) hqe hqe6 hF
      refine ⟨fu I1 8 (i32 1), ?_, k1.tr (keepK.fu (by decide)), ?_, ?_, fun _ => ?_⟩
      · rw [hhead, if_neg w]
        exact h162 1 (by omega) (by omega)
      · have e9 : fu I1 8 (i32 1) 9 = i32 (mwd F q e) := by rw [fu_ne _ _ (by decide)]; exact i9
        rw [htk, if_neg (by omega), hwk]
        unfold rel
        rw [e9, fu_same]
        rcases hms with hm | hm | hm | hm
        · rw [hm]
          exact Or.inr (Or.inr (Or.inr (Or.inl ⟨rfl, rfl, rfl⟩)))
        · rw [hm]
          exact Or.inr (Or.inr (Or.inr (Or.inr (Or.inl ⟨rfl, rfl, rfl⟩))))
        · rw [hm]
          exact Or.inr (Or.inr (Or.inr (Or.inr (Or.inr (Or.inl ⟨rfl, rfl, rfl⟩)))))
        · omega
      · rw [fu_ne _ _ (by decide), htk]; exact i10
      · rw [fu_ne _ _ (by decide), htk]; exact i7
  intro k
  induction k with
  | zero =>
    intro i I h1 h6 h7 h10 h2
    simp only [run] at h2
    exact hend I 0 h6 (by rw [h7, h2]) h10 (by rw [decide_eq_false (by omega)]; rfl)
  | succ k ih =>
    intro i I h1 h6 h7 h10 h2
    simp only [run] at h2
    cases hx : isLb (F (q + i)) with
    | false =>
      rw [hx] at h2
      simp only [Bool.false_eq_true, if_false] at h2
      exact hend I (k + 1) h6 (by rw [h7, h2]) h10 (by rw [← h2, hx, Bool.and_false])
    | true =>
      rw [hx] at h2
      simp only [if_true] at h2
      obtain ⟨I1, hI1⟩ : ∃ I1, I1 = fu I 7 (i32 ((q + (i + 1) : Nat) : Int)) := ⟨_, rfl⟩
      obtain ⟨I', q1, q2, q3⟩ := ih (i + 1) I1 (by omega) (by rw [hI1, fu_ne _ _ (by decide)]; exact h6) (by rw [hI1, fu_same]) (by rw [hI1, fu_ne _ _ (by decide)]; exact h10) (by rw [← Nat.add_assoc]; exact h2)
      refine ⟨I', ?_, (show keepK I I1 by rw [hI1]; exact keepK.fu (by decide)).tr q2, q3⟩
      rw [jf_X12_token_90_s, ← q1]
      simp (disch := omega) only [rI, h7, r_isS H h h6 (show q + i ≤ n by omega), hx, decide_eq_true (show q + i < n by omega), Bool.and_true, xbs, i32_lit, bI_eq0, Bool.true_eq_false, if_false, i32_add, rsI]
      rw [show ((q + i : Nat) : Int) + 1 = ((q + (i + 1) : Nat) : Int) by omega, ← hI1]
theorem r_t213 (H : MH ty M mm mi h0) (h : TPr A F n) : ∀ (k a W : Nat) (I : Nat → Int32), a + k = n → I 6 = i32 (n : Nat) → I 7 = i32 (a : Nat) → I 9 = i32 (W : Nat) → W ≤ 1000000 →
    ∃ I' W', jf_X12_token_213 ty (k + 1) M (rst mm mi h0 M I A J) = some (rst mm mi h0 M I' A J) ∧ (∀ k, k ≠ 7 → k ≠ 9 → I' k = I k) ∧ I' 7 = i32 (run isDb F k a : Nat) ∧ I' 9 = i32 (W' : Nat) ∧ W' ≤ 1000000 ∧ nmV F k a (min 1000 W) = min 1000 W' := by
  have h700 := h.1
  intro k
  induction k with
  | zero =>
    intro a W I h1 h6 h7 h9 hW
    refine ⟨I, W, ?_, fun _ _ _ => rfl, h7, h9, hW, rfl⟩
    rw [jf_X12_token_213_s]
    simp (disch := omega) only [rI, h7, r_isDg H h h6 (show a ≤ n by omega), decide_eq_false (show ¬ a < n by omega), Bool.false_and, xbs, i32_lit, bI_eq0, if_true]
  | succ k ih =>
    intro a W I h1 h6 h7 h9 hW
    have hF := (h.2.1 a (by omega)).1
    cases hx : isDb (F a) with
    | false =>
      refine ⟨I, W, ?_, fun _ _ _ => rfl, by simp only [run, hx]; exact h7, h9, hW, by simp only [nmV, hx]; rfl⟩
      rw [jf_X12_token_213_s]
      simp (disch := omega) only [rI, h7, r_isDg H h h6 (show a ≤ n by omega), hx, Bool.and_false, xbs, i32_lit, bI_eq0, if_true]
    | true =>
      have hx2 := hx
      unfold isDb at hx2
      rw [Bool.and_eq_true_iff, decide_eq_true_iff, decide_eq_true_iff] at hx2
      have hhead : jf_X12_token_213 ty (k + 1 + 1) M (rst mm mi h0 M I A J) = if (W : Int) ≤ 99999 then jf_X12_token_213 ty (k + 1) M (rst mm mi h0 M (fu (fu I 9 (i32 ((10 * W + (F a - 48) : Nat) : Int))) 7 (i32 ((a + 1 : Nat) : Int))) A J) else jf_X12_token_213 ty (k + 1) M (rst mm mi h0 M (fu (fu I 9 (i32 (W : Nat))) 7 (i32 ((a + 1 : Nat) : Int))) A J) := by
        rw [jf_X12_token_213_s]
        have e7 : ∀ v, fu I 9 v 7 = i32 (a : Nat) := fun v => by rw [fu_ne _ _ (by decide)]; exact h7
        simp (disch := omega) only [rI, h7, r_isDg H h h6 (show a ≤ n by omega), hx, decide_eq_true (show a < n by omega), Bool.and_true, xbs, i32_lit, bI_eq0, Bool.true_eq_false, if_false, h9, rr_0 H, r_tpa H h (show a < n by omega), i32_mul, i32_add, i32_sub, rsI, e7, i32_le]
        rw [show (10 : Int) * (W : Int) + ((F a : Nat) : Int) - 48 = ((10 * W + (F a - 48) : Nat) : Int) by omega, show (a : Int) + 1 = ((a + 1 : Nat) : Int) by omega]
      have hnm : nmV F (k + 1) a (min 1000 W) = nmV F k (a + 1) (min 1000 (min 1000 W * 10 + (F a - 48))) := by simp only [nmV, hx, if_true]
      have hrn : run isDb F (k + 1) a = run isDb F k (a + 1) := by simp only [run, hx, if_true]
      rw [hnm, hrn]
      by_cases w : (W : Int) ≤ 99999
      · obtain ⟨I', W', q1, q2, q3, q4, q5, q6⟩ := ih (a + 1) (10 * W + (F a - 48)) (fu (fu I 9 (i32 ((10 * W + (F a - 48) : Nat) : Int))) 7 (i32 ((a + 1 : Nat) : Int))) (by omega) (by rw [fu_ne _ _ (by decide), fu_ne _ _ (by decide)]; exact h6) (fu_same _ _ _) (by rw [fu_ne _ _ (by decide), fu_same]) (by omega)
        refine ⟨I', W', by rw [hhead, if_pos w]; exact q1, fun k a1 a2 => by rw [q2 k a1 a2, fu_ne _ _ a1, fu_ne _ _ a2], q3, q4, q5, ?_⟩
        rw [← q6]
        congr 1
        omega
      · obtain ⟨I', W', q1, q2, q3, q4, q5, q6⟩ := ih (a + 1) W (fu (fu I 9 (i32 (W : Nat))) 7 (i32 ((a + 1 : Nat) : Int))) (by omega) (by rw [fu_ne _ _ (by decide), fu_ne _ _ (by decide)]; exact h6) (fu_same _ _ _) (by rw [fu_ne _ _ (by decide), fu_same]) hW
        refine ⟨I', W', by rw [hhead, if_neg w]; exact q1, fun k a1 a2 => by rw [q2 k a1 a2, fu_ne _ _ a1, fu_ne _ _ a2], q3, q4, q5, ?_⟩
        rw [← q6]
        congr 1
        omega
theorem r_sg74 {x : Nat} (hx : x = 60 ∨ x = 62 ∨ x = 61) {q : Nat} (hq : q ≤ 700) (s : Int32) (h9 : I 9 = i32 (x : Nat)) (h7 : I 7 = i32 (q : Nat)) : ∃ I', jf_X12_signToken_74 ty M s (rst mm mi h0 M I A J) = some (rst mm mi h0 M I' A J) ∧ keepK I I' ∧ I' 10 = I 10 ∧ I' 8 = i32 5 ∧ ((x = 61 ∧ I' 9 = i32 2 ∧ I' 7 = i32 (q : Nat)) ∨ (x ≠ 61 ∧ I' 9 ≠ i32 2)) := by
  have d60 : ¬ i32 ((60 : Nat) : Int) = i32 61 := by decide
  have d62 : ¬ i32 ((62 : Nat) : Int) = i32 61 := by decide
  have d62' : ¬ i32 ((62 : Nat) : Int) = i32 60 := by decide
  have d61 : ¬ i32 ((61 : Nat) : Int) = i32 60 := by decide
  have t61 : i32 ((61 : Nat) : Int) = i32 61 := by decide
  have t60 : i32 ((60 : Nat) : Int) = i32 60 := by decide
  have n10 : ¬ i32 1 = i32 0 := by decide
  -- the last steps
  have h135 : ∀ (I : Nat → Int32) (v2 v3 : Int32), I 9 = i32 (x : Nat) → (v2 = i32 0 ∨ v2 = i32 1) → (v3 = i32 0 ∨ v3 = i32 1) → ∃ I', jf_X12_signToken_135 ty M v2 v3 (rst mm mi h0 M I A J) = some (rst mm mi h0 M I' A J) ∧ (∀ k, k ≠ 8 → k ≠ 9 → I' k = I k) ∧ I' 8 = i32 5 ∧ ((x = 61 ∧ I' 9 = i32 2) ∨ (x ≠ 61 ∧ I' 9 ≠ i32 2)) := by
    intro I v2 v3 h9 hv2 hv3
    have e9 : fu I 8 (i32 5) 9 = i32 (x : Nat) := by rw [fu_ne _ _ (by decide)]; exact h9
    have hset : ∀ v : Int32, ∃ I', jf_X12_signToken_192 ty M v (rst mm mi h0 M (fu I 8 (i32 5)) A J) = some (rst mm mi h0 M I' A J) ∧ (∀ k, k ≠ 8 → k ≠ 9 → I' k = I k) ∧ I' 8 = i32 5 ∧ I' 9 = v := by
      intro v
      refine ⟨fu (fu I 8 (i32 5)) 9 v, ?_, fun k a1 a2 => by rw [fu_ne _ _ a2, fu_ne _ _ a1], by rw [fu_ne _ _ (by decide), fu_same], fu_same _ _ _⟩
      unfold jf_X12_signToken_192
      simp only [rsI, xbs]
    unfold jf_X12_signToken_135
    simp only [rsI, xbs, rI, i32_lit, e9]
    rcases hx with rfl | rfl | rfl
    · simp only [eq_false d60, if_false, eq_true t60, if_true]
      rcases hv2 with rfl | rfl
      · simp only [if_true]
        rcases hv3 with rfl | rfl
        · simp only [if_true]
          obtain ⟨I', a1, a2, a3, a4⟩ := hset (i32 0)
          exact ⟨I', a1, a2, a3, Or.inr ⟨by decide, by rw [a4]; decide⟩⟩
        · simp only [eq_false n10, if_false]
          obtain ⟨I', a1, a2, a3, a4⟩ := hset (i32 3)
          exact ⟨I', a1, a2, a3, Or.inr ⟨by decide, by rw [a4]; decide⟩⟩
      · simp only [eq_false n10, if_false]
        obtain ⟨I', a1, a2, a3, a4⟩ := hset (i32 1)
        exact ⟨I', a1, a2, a3, Or.inr ⟨by decide, by rw [a4]; decide⟩⟩
    · simp only [eq_false d62, if_false, eq_false d62']
      rcases hv2 with rfl | rfl
      · simp only [if_true]
        obtain ⟨I', a1, a2, a3, a4⟩ := hset (i32 5)
        exact ⟨I', a1, a2, a3, Or.inr ⟨by decide, by rw [a4]; decide⟩⟩
      · simp only [eq_false n10, if_false]
        obtain ⟨I', a1, a2, a3, a4⟩ := hset (i32 4)
        exact ⟨I', a1, a2, a3, Or.inr ⟨by decide, by rw [a4]; decide⟩⟩
    · simp only [eq_true t61, if_true]
      obtain ⟨I', a1, a2, a3, a4⟩ := hset (i32 2)
      exact ⟨I', a1, a2, a3, Or.inl ⟨trivial, a4⟩⟩
  have h116 : ∀ (v2 v3 : Int32), (v2 = i32 0 ∨ v2 = i32 1) → (v3 = i32 0 ∨ v3 = i32 1) → (x = 61 → v2 = i32 0 ∧ v3 = i32 0) → ∃ I', jf_X12_signToken_116 ty M v2 v3 (rst mm mi h0 M I A J) = some (rst mm mi h0 M I' A J) ∧ keepK I I' ∧ I' 10 = I 10 ∧ I' 8 = i32 5 ∧ ((x = 61 ∧ I' 9 = i32 2 ∧ I' 7 = i32 (q : Nat)) ∨ (x ≠ 61 ∧ I' 9 ≠ i32 2)) := by
    intro v2 v3 hv2 hv3 h61
    have hmv : x ≠ 61 → ∃ I', jf_X12_signToken_135 ty M v2 v3 (rst mm mi h0 M (fu I 7 (i32 ((q + 1 : Nat) : Int))) A J) = some (rst mm mi h0 M I' A J) ∧ keepK I I' ∧ I' 10 = I 10 ∧ I' 8 = i32 5 ∧ ((x = 61 ∧ I' 9 = i32 2 ∧ I' 7 = i32 (q : Nat)) ∨ (x ≠ 61 ∧ I' 9 ≠ i32 2)) := by
      intro hne
      obtain ⟨I', a1, a2, a3, a4⟩ := h135 (fu I 7 (i32 ((q + 1 : Nat) : Int))) v2 v3 (by rw [fu_ne _ _ (by decide)]; exact h9) hv2 hv3
      refine ⟨I', a1, fun k hk => ?_, by rw [a2 10 (by decide) (by decide), fu_ne _ _ (by decide)], a3, ?_⟩
      · rw [a2 k (fun z => hk (by rw [z]; decide)) (fun z => hk (by rw [z]; decide)), fu_ne _ _ (fun z => hk (by rw [z]; decide))]
      · rcases a4 with ⟨b1, -⟩ | b
        · exact absurd b1 hne
        · exact Or.inr b
    have hst : (v2 = i32 0 ∧ v3 = i32 0) → ∃ I', jf_X12_signToken_135 ty M v2 v3 (rst mm mi h0 M I A J) = some (rst mm mi h0 M I' A J) ∧ keepK I I' ∧ I' 10 = I 10 ∧ I' 8 = i32 5 ∧ ((x = 61 ∧ I' 9 = i32 2 ∧ I' 7 = i32 (q : Nat)) ∨ (x ≠ 61 ∧ I' 9 ≠ i32 2)) := by
      intro _
      obtain ⟨I', a1, a2, a3, a4⟩ := h135 I v2 v3 h9 hv2 hv3
      refine ⟨I', a1, fun k hk => a2 k (fun z => hk (by rw [z]; decide)) (fun z => hk (by rw [z]; decide)), a2 10 (by decide) (by decide), a3, ?_⟩
      rcases a4 with ⟨b1, b2⟩ | b
      · exact Or.inl ⟨b1, b2, by rw [a2 7 (by decide) (by decide)]; exact h7⟩
      · exact Or.inr b
    unfold jf_X12_signToken_116
    simp (disch := omega) only [i32_lit, rI, h7, i32_add, rsI, xbs]
    rw [show (q : Int) + 1 = ((q + 1 : Nat) : Int) by omega]
    rcases hv2 with rfl | rfl
    · simp only [if_true]
      rcases hv3 with rfl | rfl
      · simp only [if_true]
        exact hst ⟨rfl, rfl⟩
      · simp only [eq_false n10, if_false]
        exact hmv (fun z => n10 (h61 z).2)
    · simp only [eq_false n10, if_false]
      exact hmv (fun z => n10 (h61 z).1)
  have h95 : ∀ (v1 e : Int32), (e = i32 0 ∨ e = i32 1) → (x = 61 → e = i32 0) → ∃ I', jf_X12_signToken_95 ty M v1 e (rst mm mi h0 M I A J) = some (rst mm mi h0 M I' A J) ∧ keepK I I' ∧ I' 10 = I 10 ∧ I' 8 = i32 5 ∧ ((x = 61 ∧ I' 9 = i32 2 ∧ I' 7 = i32 (q : Nat)) ∨ (x ≠ 61 ∧ I' 9 ≠ i32 2)) := by
    intro v1 e he h61
    unfold jf_X12_signToken_95
    simp only [rI, h9, i32_lit]
    by_cases w : i32 (x : Nat) = i32 60
    · simp only [eq_true w, if_true]
      have hn61 : x ≠ 61 := fun z => d61 (by rw [← z]; exact w)
      by_cases w2 : v1 = i32 62
      · simp only [eq_true w2, if_true]
        exact h116 e (i32 1) he (Or.inr rfl) (fun z => absurd z hn61)
      · simp only [eq_false w2, if_false]
        exact h116 e (i32 0) he (Or.inl rfl) (fun z => absurd z hn61)
    · simp only [eq_false w, if_false]
      exact h116 e (i32 0) he (Or.inl rfl) (fun z => ⟨h61 z, rfl⟩)
  unfold jf_X12_signToken_74
  simp only [rI, h9, i32_lit]
  by_cases w : i32 (x : Nat) = i32 61
  · simp only [eq_true w, if_true]
    exact h95 s (i32 0) (Or.inl rfl) (fun _ => rfl)
  · simp only [eq_false w, if_false]
    have hn61 : x ≠ 61 := fun z => w (by rw [z]; rfl)
    by_cases w2 : s = i32 61
    · simp only [eq_true w2, if_true]
      exact h95 s (i32 1) (Or.inr rfl) (fun z => absurd z hn61)
    · simp only [eq_false w2, if_false]
      exact h95 s (i32 0) (Or.inl rfl) (fun z => absurd z hn61)
end LEXR2

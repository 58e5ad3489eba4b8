/-! TEXT: all lines, in the class -/
theorem clB_ge {T : Nat → Tk} : ∀ (aw : List Nat) (j : Nat), j ≤ (clB T j aw).2.1
  | [], j => Nat.le_refl _
  | a :: aw, j => by
    simp only [clB]
    split
    · split
      · exact Nat.le_succ _
      · exact Nat.le_refl _
    · split
      · have := clB_ge (T := T) aw (j + 1); omega
      · exact Nat.le_refl _
theorem pT_ge {T : Nat → Tk} {b : Bk} {lf : Option (List Nat)} : ∀ (k j : Nat) (L aw : List Nat), j ≤ (pT T b lf k j L aw).2.1 := by
  intro k
  induction k with
  | zero => intro j L aw; exact Nat.le_refl _
  | succ k ih =>
    intro j L aw
    have hc := clB_ge (T := T) aw (j + 1)
    rw [pT_s]
    split
    · exact Nat.le_refl _
    · split
      · split
        · have := ih (j + 2) (L ++ [plD T b j]) (bar b (plD T b j) :: aw); omega
        · exact Nat.le_succ _
      · split
        · show j ≤ (clB T (j + 1) aw).2.1; omega
        · split
          · show j ≤ (clB T (j + 1) aw).2.1; omega
          · have := ih (clB T (j + 1) aw).2.1 (L ++ [plD T b j]) (clB T (j + 1) aw).2.2; omega
theorem lnR_ge (T : Nat → Tk) (b : Bk) (j : Nat) : j ≤ (lnR T b j).2.1 := by
  unfold lnR
  split
  · unfold sgL
    repeat' (first | (show j ≤ j; omega) | (show j ≤ j + 1; omega) | (show j ≤ j + 2; omega) | (show j ≤ j + 3; omega) | split)
  · split
    · unfold vrL
      repeat' (first | (show j ≤ j; omega) | (show j ≤ j + 1; omega) | (show j ≤ j + 2; omega) | split)
    · split
      · unfold rlL
        split
        · exact Nat.le_refl _
        · split
          · exact Nat.le_succ _
          · split
            · exact Nat.le_succ _
            · have h1 := pT_ge (T := T) (b := b) (lf := none) 13 (j + 2) [] []
              have h2 := pT_ge (T := T) (b := b) (lf := some (pT T b none 13 (j + 2) [] []).2.2) 13 ((pT T b none 13 (j + 2) [] []).2.1 + 1) [] []
              unfold rlT
              split
              · show j ≤ (pT T b none 13 (j + 2) [] []).2.1; omega
              · split
                · unfold rlU
                  generalize pT T b (some (pT T b none 13 (j + 2) [] []).2.2) 13 ((pT T b none 13 (j + 2) [] []).2.1 + 1) [] [] = q at h2 ⊢
                  split
                  · show j ≤ q.2.1; omega
                  · show j ≤ q.2.1; omega
                · show j ≤ (pT T b none 13 (j + 2) [] []).2.1; omega
      · exact Nat.le_refl _
theorem lnE_ok {T : Nat → Tk} {p : Nat × Nat × Bk} (h : (lnE T p).1 = 0) : p.1 = 0 ∧ (T p.2.1).1 = 59 ∧ lnE T p = (0, p.2.1 + 1, p.2.2) := by
  unfold lnE at h ⊢
  by_cases w : p.1 = 0
  · rw [if_neg (show ¬ p.1 ≠ 0 from fun e => e w)] at h ⊢
    by_cases w2 : (T p.2.1).1 = 59
    · rw [if_pos w2]; exact ⟨w, w2, rfl⟩
    · rw [if_neg w2] at h; cases h
  · rw [if_pos w] at h; exact absurd h w
theorem lnS_ok {T : Nat → Tk} {b : Bk} {j : Nat} (hb : bwf b) (h : (lnS T b j).1 = 0) : j + 1 ≤ (lnS T b j).2.1 ∧ (T ((lnS T b j).2.1 - 1)).1 = 59 ∧ bwf (lnS T b j).2.2 := by
  obtain ⟨h1, h2, h3⟩ := lnE_ok h
  have h4 := lnR_ge T b j
  unfold lnS
  rw [h3]
  exact ⟨by show j + 1 ≤ (lnR T b j).2.1 + 1; omega, h2, lnR_wf hb h1⟩
theorem lns_ok {T : Nat → Tk} {z : Nat} (hz0 : ∀ i, z ≤ i + 1 → (T i).1 = 0) : ∀ (k v j : Nat) (b : Bk), bwf b → v ≤ j → j + 1 ≤ z → (lns T k v j b).1 = 0 → bwf (lns T k v j b).2.2.2 ∧ (lns T k v j b).2.2.1 + 1 ≤ z := by
  intro k
  induction k with
  | zero => intro v j b _ _ _ h; cases h
  | succ k ih =>
    intro v j b hb h1 h2 h
    rw [show lns T (k + 1) v j b = (if (T j).1 = 0 then (0, j, v, b) else if (lnS T b j).1 ≠ 0 then ((lnS T b j).1, (lnS T b j).2.1, v, b) else lns T k (v + 1) (lnS T b j).2.1 (lnS T b j).2.2) from rfl] at h ⊢
    by_cases w : (T j).1 = 0
    · rw [if_pos w]
      exact ⟨hb, by show v + 1 ≤ z; omega⟩
    · rw [if_neg w] at h ⊢
      by_cases w2 : (lnS T b j).1 = 0
      · rw [if_neg (show ¬ (lnS T b j).1 ≠ 0 from fun e => e w2)] at h ⊢
        obtain ⟨o1, o2, o3⟩ := lnS_ok hb w2
        refine ih _ _ _ o3 (by omega) ?_ h
        rcases Nat.lt_or_ge (lnS T b j).2.1 z with h' | h'
        · omega
        · rw [hz0 _ (by omega)] at o2; cases o2
      · rw [if_pos w2] at h
        exact absurd h w2
section TEXTE
variable {ty : xTy} {N M : Nat} {hA hB h0 : xH} {mm mi : Nat → Nat} {c : CS} {I : Nat → Int32} {A : Nat → Nat → Int32} {J : Nat → Int64} {g : Sg} {b : Bk} {F : Nat → Nat} {n : Nat}
theorem CT.z0 {z j : Nat} (h : CT c F n z j) : ∀ i, z ≤ i + 1 → (tk F n i).1 = 0 := fun i hi => by
  have h1 := tk_ends h.2.2.2.1 (i - (z - 1))
  rw [show z - 1 + (i - (z - 1)) = i by have := h.2.2.1; omega] at h1
  rw [h1]
theorem k_ln (C : CH ty N) (hL : LY c) (hb : bwf b) {z j S : Nat} (hS : S = 2 ∨ S = 108) (h : CT c F n z j) (hB : CB c S b) : ∃ c', jf_X4_readLine ty (cst N h0 c) (N + 226) (N + S) = some (bI (decide ((lnR (tk F n) b j).1 = 0)), cst N h0 c') ∧ LR S F n z c c' (lnR (tk F n) b j) := by
  have h61 := tk_k F n j
  have i5 : cI c 227 5 = i32 ((tk F n j).1 : Nat) := h.2.2.2.2.2.2.1
  have hy : ∀ s : Nat, s ≤ 61 → (i32 ((tk F n j).1 : Nat) = i32 (s : Nat) ↔ (tk F n j).1 = s) := fun s hs => by
    rw [i32_eq (by omega) (by omega) (by omega) (by omega)]; omega
  have h3 : (i32 ((tk F n j).1 : Nat) = i32 3 ↔ (tk F n j).1 = 3) := hy 3 (by omega)
  have h4 : (i32 ((tk F n j).1 : Nat) = i32 4 ↔ (tk F n j).1 = 4) := hy 4 (by omega)
  have h5 : (i32 ((tk F n j).1 : Nat) = i32 5 ↔ (tk F n j).1 = 5) := hy 5 (by omega)
  unfold jf_X4_readLine lnR
  simp (disch := omega) only [i32_lit, k_tks C hL, xbs, kI, i5]
  by_cases w3 : (tk F n j).1 = 3
  · obtain ⟨c', q1, q2⟩ := k_sgL (h0 := h0) C hL hb hS h hB
    simp only [eq_true (h3.mpr w3), if_true, q1, xb2s, xz_b, xbs, if_pos w3]
    exact ⟨c', rfl, q2⟩
  · have w3' : ¬ i32 ((tk F n j).1 : Nat) = i32 3 := fun e => w3 (h3.mp e)
    by_cases w4 : (tk F n j).1 = 4
    · obtain ⟨c', q1, q2⟩ := k_vrL (h0 := h0) C hL hb hS h hB
      simp only [eq_false w3', if_false, eq_true (h4.mpr w4), if_true, q1, xb2s, xz_b, xbs, if_neg w3, if_pos w4]
      exact ⟨c', rfl, q2⟩
    · have w4' : ¬ i32 ((tk F n j).1 : Nat) = i32 4 := fun e => w4 (h4.mp e)
      by_cases w5 : (tk F n j).1 = 5
      · obtain ⟨c', q1, q2⟩ := k_rlL (h0 := h0) C hL hb hS h hB
        simp only [eq_false w3', eq_false w4', if_false, eq_true (h5.mpr w5), if_true, q1, xb2s, xz_b, xbs, if_neg w3, if_neg w4, if_pos w5]
        exact ⟨c', rfl, q2⟩
      · have w5' : ¬ i32 ((tk F n j).1 : Nat) = i32 5 := fun e => w5 (h5.mp e)
        simp only [eq_false w3', eq_false w4', eq_false w5', if_false, if_neg w3, if_neg w4, if_neg w5]
        exact k_flL C hL h (by decide)
theorem k_ls13 (C : CH ty N) {z S : Nat} (hS : S = 2 ∨ S = 108) (hz : z ≤ 701) : ∀ (k v j : Nat) (c : CS) (b : Bk), z ≤ j + k → v ≤ j → j + 1 ≤ z → LY c → bwf b → CT c F n z j → CB c S b →
    ∃ m c', jf_X4_readLines_13 ty m (N + 226) (N + S) (i32 (v : Nat)) (cst N h0 c) = some (if (lns (tk F n) k v j b).1 = 0 then i32 ((lns (tk F n) k v j b).2.2.1 : Nat) else i32 (-1), cst N h0 c') ∧ frL S c c' ∧ ((lns (tk F n) k v j b).1 = 0 → CB c' S (lns (tk F n) k v j b).2.2.2 ∧ cI c' 226 3 = cI c 226 3 ∧ cI c' 226 4 = cI c 226 4) ∧ ((lns (tk F n) k v j b).1 ≠ 0 → FLT c' (lns (tk F n) k v j b).1 (tk F n (lns (tk F n) k v j b).2.1).2.1) := by
  intro k
  induction k with
  | zero => intro v j c b h1 h2 h3; omega
  | succ k ih =>
    intro v j c b h1 h2 h3 hL hb hT hB
    have h61 := tk_k F n j
    have i5 : cI c 227 5 = i32 ((tk F n j).1 : Nat) := hT.2.2.2.2.2.2.1
    rw [show lns (tk F n) (k + 1) v j b = (if (tk F n j).1 = 0 then (0, j, v, b) else if (lnS (tk F n) b j).1 ≠ 0 then ((lnS (tk F n) b j).1, (lnS (tk F n) b j).2.1, v, b) else lns (tk F n) k (v + 1) (lnS (tk F n) b j).2.1 (lnS (tk F n) b j).2.2) from rfl]
    by_cases w : (tk F n j).1 = 0
    · rw [if_pos w]
      refine ⟨1, c, ?_, frL.rf, fun _ => ⟨hB, rfl, rfl⟩, fun e => absurd rfl e⟩
      have w' : i32 ((tk F n j).1 : Nat) = i32 0 := by rw [w]; rfl
      rw [jf_X4_readLines_13_s]
      simp (disch := omega) only [i32_lit, i32_lt, if_neg, k_tks C hL, xbs, kI, i5, eq_true w', if_true]
    · rw [if_neg w]
      have w' : ¬ i32 ((tk F n j).1 : Nat) = i32 0 := by rw [i32_eq (by omega) (by omega) (by omega) (by omega)]; omega
      obtain ⟨c1, q1, q2, q3, q4⟩ := k_ln (h0 := h0) C hL hb hS hT hB
      have hL1 := q2.ly hL
      have hhead : ∀ m, jf_X4_readLines_13 ty (m + 1) (N + 226) (N + S) (i32 (v : Nat)) (cst N h0 c) = if (lnR (tk F n) b j).1 = 0 then (xb2 (jf_X4_pass ty (cst N h0 c1) (N + 226) (i32 59)) fun a8 h7 => if a8 = i32 0 then some (i32 (-1), h7) else jf_X4_readLines_13 ty m (N + 226) (N + S) (i32 ((v + 1 : Nat) : Int)) h7) else some (i32 (-1), cst N h0 c1) := by
        intro m
        rw [jf_X4_readLines_13_s]
        simp (disch := omega) only [i32_lit, i32_neg, i32_lt, if_neg, k_tks C hL, xbs, kI, i5, eq_false w', if_false, q1, xb2s, bI_eq0, i32_add]
        rw [show (v : Int) + 1 = ((v + 1 : Nat) : Int) by omega]
        by_cases wl : (lnR (tk F n) b j).1 = 0
        · simp only [decide_eq_true wl, Bool.true_eq_false, if_false, if_pos wl]
        · simp only [decide_eq_false wl, if_true, if_neg wl]
      by_cases wl : (lnR (tk F n) b j).1 = 0
      · obtain ⟨x1, x2, x3, x4⟩ := q3 wl
        obtain ⟨c2, p1, p2, p3, p4, p5⟩ := k_pass (h0 := h0) (k := 59) C hL1 (by omega) x1
        have p1' : jf_X4_pass ty (cst N h0 c1) (N + 226) (i32 59) = some (bI (decide ((tk F n (lnR (tk F n) b j).2.1).1 = 59)), cst N h0 c2) := p1
        have f2 : frL S c c2 := q2.tr (frL.o p2 (by omega))
        by_cases w9 : (tk F n (lnR (tk F n) b j).2.1).1 = 59
        · have e : lnS (tk F n) b j = (0, (lnR (tk F n) b j).2.1 + 1, (lnR (tk F n) b j).2.2) := by unfold lnS lnE; rw [if_neg (show ¬ (lnR (tk F n) b j).1 ≠ 0 from fun e => e wl), if_pos w9]
          obtain ⟨o1, o2, o3⟩ := lnS_ok hb (show (lnS (tk F n) b j).1 = 0 by rw [e])
          obtain ⟨y1, y2, y3⟩ := p4 w9
          rw [e] at o1 o3
          rw [e, if_neg (show ¬ ((0, (lnR (tk F n) b j).2.1 + 1, (lnR (tk F n) b j).2.2) : Nat × Nat × Bk).1 ≠ 0 from fun e => e rfl)]
          have o1' : j + 1 ≤ (lnR (tk F n) b j).2.1 + 1 := o1
          have hzz : (lnR (tk F n) b j).2.1 + 1 + 1 ≤ z := by
            rcases Nat.lt_or_ge ((lnR (tk F n) b j).2.1 + 1) z with h' | h'
            · omega
            · rw [hT.z0 _ h'] at w9; cases w9
          obtain ⟨m, c3, z1, z2, z3, z4⟩ := ih (v + 1) ((lnR (tk F n) b j).2.1 + 1) c2 (lnR (tk F n) b j).2.2 (by omega) (by omega) hzz (f2.ly hL) o3 y1 (x2.o o3.2.2.1 hS p2 (by omega))
          refine ⟨m + 1, c3, ?_, f2.tr z2, fun h => ?_, z4⟩
          · have nb : ¬ bI true = i32 0 := by decide
            rw [hhead m, if_pos wl, p1', xb2s, decide_eq_true w9]
            simp only [eq_false nb, if_false]
            exact z1
          · obtain ⟨t1, t2, t3⟩ := z3 h
            exact ⟨t1, t2.trans (y2.trans x3), t3.trans (y3.trans x4)⟩
        · have e : lnS (tk F n) b j = (1, (lnR (tk F n) b j).2.1, (lnR (tk F n) b j).2.2) := by unfold lnS lnE; rw [if_neg (show ¬ (lnR (tk F n) b j).1 ≠ 0 from fun e => e wl), if_neg w9]
          rw [e, if_pos (show ((1, (lnR (tk F n) b j).2.1, (lnR (tk F n) b j).2.2) : Nat × Nat × Bk).1 ≠ 0 from (show ¬ (1 : Nat) = 0 by decide))]
          refine ⟨1, c2, ?_, f2, fun h => (by cases h), fun _ => p5 w9⟩
          rw [hhead 0, if_pos wl, p1', xb2s, decide_eq_false w9]
          rfl
      · have e : lnS (tk F n) b j = lnR (tk F n) b j := by unfold lnS lnE; rw [if_pos wl]
        rw [e, if_pos wl]
        refine ⟨1, c1, ?_, q2, fun h => absurd h wl, fun _ => q4 wl⟩
        rw [hhead 0, if_neg wl, if_neg (show ¬ ((lnR (tk F n) b j).1, (lnR (tk F n) b j).2.1, v, b).1 = 0 from wl)]
theorem k_ls (C : CH ty N) {S : Nat} (hS : S = 2 ∨ S = 108) (hL : LY c) (hT : TPc c F n) : ∃ c' z, jf_X4_readLines ty (cst N h0 c) (N + 226) (N + 1) (i32 (n : Nat)) (N + S) = some (if (lns (tk F n) 701 0 0 bk0).1 = 0 then i32 ((lns (tk F n) 701 0 0 bk0).2.2.1 : Nat) else i32 (-1), cst N h0 c') ∧ frL S c c' ∧ (z ≤ 701 ∧ 1 ≤ z ∧ ∀ i, z ≤ i + 1 → (tk F n i).1 = 0) ∧ ((lns (tk F n) 701 0 0 bk0).1 = 0 → CB c' S (lns (tk F n) 701 0 0 bk0).2.2.2 ∧ cI c' 226 3 = i32 0 ∧ cI c' 226 4 = i32 (-1)) ∧ ((lns (tk F n) 701 0 0 bk0).1 ≠ 0 → FLT c' (lns (tk F n) 701 0 0 bk0).1 (tk F n (lns (tk F n) 701 0 0 bk0).2.1).2.1) := by
  have hS3 : S < 273 := by omega
  obtain ⟨c1, z, q1, q2, q3, q4, q5⟩ := k_beg (h0 := h0) C hL hT
  obtain ⟨c2, hc2⟩ : ∃ c2, c2 = csI (csI (csI c1 S 7 (i32 0)) S 8 (i32 0)) S 9 (i32 0) := ⟨_, rfl⟩
  have f2 : fr S (S + 106) c1 c2 := by
    rw [hc2]
    exact (fr.tr (fr.I (by omega) (by omega)) (fr.I (by omega) (by omega))).tr (fr.I (by omega) (by omega))
  have hB2 : CB c2 S bk0 := by
    refine ⟨?_, ?_, ?_, fun k hk => absurd hk (Nat.not_lt_zero k), fun k hk => absurd hk (Nat.not_lt_zero k), fun k hk => absurd hk (Nat.not_lt_zero k)⟩
    · rw [hc2, sI_o (by omega), sI_o (by omega), sI_s]; rfl
    · rw [hc2, sI_o (by omega), sI_s]; rfl
    · rw [hc2, sI_s]; rfl
  obtain ⟨m, c3, z1, z2, z3, z4⟩ := k_ls13 (h0 := h0) C hS q3.2.1 701 0 0 c2 bk0 (by have := q3.2.1; omega) (Nat.le_refl _) (by have := q3.2.2.1; omega) ((hL.same q2.2.1 q2.2.2).same f2.2.1 f2.2.2) bk0_wf (q3.fr f2 (by omega)) hB2
  refine ⟨c3, z, ?_, ((frL.o q2 (by omega)).tr (frL.o f2 (by omega))).tr z2, ⟨q3.2.1, q3.2.2.1, q3.z0⟩, fun h => ?_, z4⟩
  · unfold jf_X4_readLines jf_X0_clear
    simp (disch := omega) only [q1, xbs, i32_lit, ksI hS3]
    rw [← hc2]
    exact jf_X4_readLines_13_l z1
  · obtain ⟨t1, t2, t3⟩ := z3 h
    refine ⟨t1, ?_, ?_⟩
    · rw [t2, (f2.1 226 (by omega)).1]; exact q4
    · rw [t3, (f2.1 226 (by omega)).1]; exact q5
end TEXTE
